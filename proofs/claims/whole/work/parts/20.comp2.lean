def fX1_countOnWay_L9 : Nat → Int32 → Int32 → Int32 → Int32 → Ob → Ob → Option (Int32 × Ob)
  | 0, _, _, _, _, _, _ => none
  | n + 1, v2, v3, v4, v5, x, x1 =>
  (if (64) < v5 then
    some ((-1), x)
  else
    Option.bind (fX1_fill v2 v4 x x1) (fun q21 =>
    Option.bind (fX1_has v3 q21) (fun q26 =>
    (if q26 = 0 then
      Option.bind (fX1_startOfNext v3 q21 x1) (fun q38 =>
      px_let (v5 + (1) : Int32) (fun b43 =>
      fX1_countOnWay_L9 n v2 v3 q38 b43 q21 x1))
    else
      some (v5, q21)))))
def fX1_countOnWay (p2 : Int32) (p3 : Int32) (x : Ob) (x1 : Ob) : Option (Int32 × Ob) :=
  px_let ((x1.1 5) : Int32) (fun b4 =>
  fX1_countOnWay_L9 FU p2 p3 b4 (1) x x1)
abbrev rmX1_countOnWay : Room := { frames := 3, cells := 0, slots := 0, locals := 68 }
set_option maxHeartbeats 4000000 in
set_option maxRecDepth 100000 in
theorem ok_X1_countOnWay {l : Launch} {E : En} {o : Nat} {ad : (Nat → Nat)} {o1 : Nat} {ad1 : (Nat → Nat)} {p2 : Int32} {p3 : Int32} {x : Ob} {x1 : Ob} {r : Int32 × Ob} (hf : fX1_countOnWay p2 p3 x x1 = some r) : CI l yX1_countOnWay wsX1_countOnWay (rmX1_countOnWay) [.ref o, .ref o1, .int p2, .int p3] E (w1 E o ad x ++ w3 E o1 ad1 x1) (w1 E o ad r.2 ++ w3 E o1 ad1 x1) (r.1) := by
  refine xc_I (by decide) rfl (Nat.le_of_ble_eq_true rfl) [(0, .ref o), (1, .ref o1), (2, .int p2), (3, .int p3)] rfl (fun p e s m below meth c A C hr => ?_)
  generalize ([.ref o, .ref o1, .int p2, .int p3] : List Value).toArray = args at C ⊢
  obtain ⟨Z, hZ⟩ : ∃ Z, Z = ZI E (w1 E o ad r.2 ++ w3 E o1 ad1 x1) (r.1) A below args s 0 0 := ⟨_, rfl⟩
  rw [← hZ]
  have in3 : ∀ w ∈ wsX30, w ∈ wsX1_countOnWay := by decide +kernel
  have m19 : Cond.fieldLink RX1 19 "TurningTrees$Shape" "root" "I" ∈ wsX1_countOnWay := by decide +kernel
  have hL9 : ∀ n : Nat, ∀ (v2 : Int32), ∀ (v3 : Int32), ∀ (v4 : Int32), ∀ (v5 : Int32), ∀ (x : Ob), fX1_countOnWay_L9 n v2 v3 v4 v5 x x1 = some r → XW E p l e rmX1_countOnWay s m args below meth c Z A 0 0 (w1 E o ad x ++ w3 E o1 ad1 x1) 9 6 [(0, .ref o), (1, .ref o1), (2, .int v2), (3, .int v3), (4, .int v4), (5, .int v5)] [] := by
    intro n
    induction n with
    | zero =>
      intro v2 v3 v4 v5 x h
      rw [fX1_countOnWay_L9] at h
      cases h
    | succ n ih =>
      intro v2 v3 v4 v5 x h
      rw [fX1_countOnWay_L9] at h
      refine xw_iload C dX1_countOnWay_9 5 rfl ?_
      refine xw_bipush C (64) dX1_countOnWay_11 (by decide) ?_
      refine xw_icmp_gt C 49 dX1_countOnWay_13 (by decide) (fun c13 => ?_) (fun c13 => ?_)
      · have h := px_t c13 h
        refine xw_iconst C (-1) dX1_countOnWay_49 (by decide) ?_
        cases h
        rw [hZ]
        exact xw_iret C hr dX1_countOnWay_50
      · have h := px_f c13 h
        refine xw_aload_n C dX1_countOnWay_16 rfl 0 rfl ?_
        refine xw_aload_n C dX1_countOnWay_17 rfl 1 rfl ?_
        refine xw_iload_n C dX1_countOnWay_18 rfl 2 rfl ?_
        refine xw_iload C dX1_countOnWay_19 4 rfl ?_
        obtain ⟨q21, eq21, h⟩ := px_b h
        refine xw_callVV (w' := w1 E o ad q21 ++ w3 E o1 ad1 x1) (u := []) (v := []) C (ok_X1_fill (o := o) (ad := ad) (o1 := o1) (ad1 := ad1) (x := x) (x1 := x1) eq21) 3 gX1_countOnWay_X1_fill rfl ⟨rfl, rfl⟩ (by decide +kernel) ⟨Nat.le_of_ble_eq_true rfl, Nat.le_of_ble_eq_true rfl⟩ 0 1 rfl rfl rfl (Nat.le_of_ble_eq_true rfl) ⟨Nat.zero_le _, Nat.zero_le _⟩ rfl xe0 xe0.symm dX1_countOnWay_21 ?_
        refine xw_aload_n C dX1_countOnWay_24 rfl 0 rfl ?_
        refine xw_iload_n C dX1_countOnWay_25 rfl 3 rfl ?_
        obtain ⟨q26, eq26, h⟩ := px_b h
        refine xw_callVI (w' := w1 E o ad q21 ++ w3 E o1 ad1 x1) (u := (w1 E o ad q21 ++ w3 E o1 ad1 x1).take 0) (v := (w1 E o ad q21 ++ w3 E o1 ad1 x1).drop 2) C (ok_X1_has (o := o) (ad := ad) (x := q21) eq26) 1 gX1_countOnWay_X1_has rfl ⟨rfl, rfl⟩ (by decide +kernel) ⟨Nat.le_of_ble_eq_true rfl, Nat.le_of_ble_eq_true rfl⟩ 0 1 rfl rfl rfl (Nat.le_of_ble_eq_true rfl) ⟨Nat.zero_le _, Nat.zero_le _⟩ rfl rfl (by rfl) dX1_countOnWay_26 ?_
        refine xw_if_eq C 35 dX1_countOnWay_29 (by decide) (fun c29 => ?_) (fun c29 => ?_)
        · have h := px_t c29 h
          refine xw_aload_n C dX1_countOnWay_35 rfl 0 rfl ?_
          refine xw_aload_n C dX1_countOnWay_36 rfl 1 rfl ?_
          refine xw_iload_n C dX1_countOnWay_37 rfl 3 rfl ?_
          obtain ⟨q38, eq38, h⟩ := px_b h
          refine xw_callVI (w' := w1 E o ad q21 ++ w3 E o1 ad1 x1) (u := []) (v := []) C (ok_X1_startOfNext (o := o) (ad := ad) (o1 := o1) (ad1 := ad1) (x := q21) (x1 := x1) eq38) 2 gX1_countOnWay_X1_startOfNext rfl ⟨rfl, rfl⟩ (by decide +kernel) ⟨Nat.le_of_ble_eq_true rfl, Nat.le_of_ble_eq_true rfl⟩ 0 1 rfl rfl rfl (Nat.le_of_ble_eq_true rfl) ⟨Nat.zero_le _, Nat.zero_le _⟩ rfl xe0 xe0.symm dX1_countOnWay_38 ?_
          refine xw_istore C dX1_countOnWay_41 (by decide) (lv' := [(4, .int q38), (0, .ref o), (1, .ref o1), (2, .int v2), (3, .int v3), (5, .int v5)]) rfl ?_
          refine px_n h (fun b43 eb43 h => ?_)
          refine xw_iinc (v := b43) C dX1_countOnWay_43 5 rfl eb43 (by decide) (lv' := [(5, .int b43), (4, .int q38), (0, .ref o), (1, .ref o1), (2, .int v2), (3, .int v3)]) rfl ?_
          refine xw_goto C 9 dX1_countOnWay_46 (by decide) ?_
          refine xw_perm [2, 3, 4, 5, 1, 0] rfl ?_
          exact ih _ _ _ _ _ h
        · have h := px_f c29 h
          refine xw_iload C dX1_countOnWay_32 5 rfl ?_
          cases h
          rw [hZ]
          exact xw_iret C hr dX1_countOnWay_34
  rw [fX1_countOnWay] at hf
  have h := hf
  refine xw_aload_n C dX1_countOnWay_0 rfl 1 rfl ?_
  refine xw_get C in3 2 rfl rfl 5 (by decide) m19 rfl rfl dX1_countOnWay_1 ?_
  refine xw_topi (fun b4 eb4 => ?_)
  have h := px_v h b4 eb4
  refine xw_istore C dX1_countOnWay_4 (by decide) (lv' := [(4, .int b4), (0, .ref o), (1, .ref o1), (2, .int p2), (3, .int p3)]) rfl ?_
  refine xw_iconst C (1) dX1_countOnWay_6 (by decide) ?_
  refine xw_istore C dX1_countOnWay_7 (by decide) (lv' := [(5, .int (1)), (4, .int b4), (0, .ref o), (1, .ref o1), (2, .int p2), (3, .int p3)]) rfl ?_
  refine xw_perm [2, 3, 4, 5, 1, 0] rfl ?_
  exact hL9 _ _ _ _ _ _ h
def fX2_write (p1 : Int32) (x : Ob) : Option (Ob) :=
  (if (nI 100) ≤ (x.1 1) then
    some x
  else
    Option.bind (fX5_put 100 (x.1 1) p1 (x.2 0)) (fun q21 =>
    px_let (ob_f x 0 q21) (fun x_21 =>
    px_let (ob_i x_21 1 ((x_21.1 1) + (1))) (fun x_31 =>
    some x_31))))
abbrev rmX2_write : Room := { frames := 1, cells := 0, slots := 0, locals := 22 }
set_option maxHeartbeats 4000000 in
set_option maxRecDepth 100000 in
theorem ok_X2_write {l : Launch} {E : En} {o : Nat} {ad : (Nat → Nat)} {p1 : Int32} {x : Ob} {r : Ob} (hf : fX2_write p1 x = some r) : CV l yX2_write wsX2_write (rmX2_write) [.ref o, .int p1] E (w2 E o ad x) (w2 E o ad r) := by
  refine xc_V (by decide) rfl (Nat.le_of_ble_eq_true rfl) [(0, .ref o), (1, .int p1)] rfl (fun p e s m below meth c A C hr => ?_)
  generalize ([.ref o, .int p1] : List Value).toArray = args at C ⊢
  obtain ⟨Z, hZ⟩ : ∃ Z, Z = ZV E (w2 E o ad r) A below args s 0 0 := ⟨_, rfl⟩
  rw [← hZ]
  have in2 : ∀ w ∈ wsX20, w ∈ wsX2_write := by decide +kernel
  have m9 : Cond.fieldLink RX2 9 "TurningTrees$Row" "keys" "[I" ∈ wsX2_write := by decide +kernel
  have m15 : Cond.fieldLink RX2 15 "TurningTrees$Row" "length" "I" ∈ wsX2_write := by decide +kernel
  rw [fX2_write] at hf
  have h := hf
  refine xw_aload_n C dX2_write_0 rfl 0 rfl ?_
  refine xw_get C in2 0 rfl rfl 1 (by decide) m15 rfl rfl dX2_write_1 ?_
  refine xw_aload_n C dX2_write_4 rfl 0 rfl ?_
  refine xw_get C in2 0 rfl rfl 0 (by decide) m9 rfl rfl dX2_write_5 ?_
  refine xw_alen C 1 rfl dX2_write_8 ?_
  refine xw_icmp_ge C 34 dX2_write_9 (by decide) (fun c9 => ?_) (fun c9 => ?_)
  · have h := px_t c9 h
    cases h
    rw [hZ]
    exact xw_vret C hr dX2_write_34
  · have h := px_f c9 h
    refine xw_aload_n C dX2_write_12 rfl 0 rfl ?_
    refine xw_get C in2 0 rfl rfl 0 (by decide) m9 rfl rfl dX2_write_13 ?_
    refine xw_aload_n C dX2_write_16 rfl 0 rfl ?_
    refine xw_get C in2 0 rfl rfl 1 (by decide) m15 rfl rfl dX2_write_17 ?_
    refine xw_iload_n C dX2_write_20 rfl 1 rfl ?_
    obtain ⟨q21, eq21, h⟩ := px_b h
    refine px_n h (fun x_21 ex_21 h => ?_)
    refine xw_callNV (w' := w2 E o ad x_21) (u := (w2 E o ad x).take 1) (v := (w2 E o ad x).drop 2) C (ok_X5_put (a := (ad 0)) (nn := 100) (f := (x.2 0)) eq21) 3 gX2_write_X5_put_n19 rfl ⟨rfl, rfl⟩ (by decide +kernel) (by decide +kernel) (by decide +kernel) (by decide +kernel) ⟨Nat.le_of_ble_eq_true rfl, Nat.le_of_ble_eq_true rfl⟩ rfl (Nat.le_of_ble_eq_true rfl) ⟨Nat.zero_le _, Nat.zero_le _⟩ rfl rfl (by rw [ex_21]; rfl) dX2_write_21 ?_
    refine xw_aload_n C dX2_write_24 rfl 0 rfl ?_
    refine xw_dup C dX2_write_25 rfl ?_
    refine xw_get C in2 0 rfl rfl 1 (by decide) m15 rfl rfl dX2_write_26 ?_
    refine xw_iconst C (1) dX2_write_29 (by decide) ?_
    refine xw_iadd C dX2_write_30 ?_
    refine px_n h (fun x_31 ex_31 h => ?_)
    refine xw_put (w' := w2 E o ad x_31) C in2 tyX2 tyX2_ok nmX2 0 rfl rfl 1 (by decide) m15 rfl rfl rfl (Nat.le_of_ble_eq_true rfl) (by rw [ex_31]; rfl) dX2_write_31 ?_
    cases h
    rw [hZ]
    exact xw_vret C hr dX2_write_34
def fX2_wipe (x : Ob) : Option (Int32 × Ob) :=
  px_let ((x.1 1) : Int32) (fun b4 =>
  px_let (ob_i x 1 (0)) (fun x_7 =>
  some (b4, x_7)))
abbrev rmX2_wipe : Room := { frames := 0, cells := 0, slots := 0, locals := 0 }
set_option maxHeartbeats 4000000 in
set_option maxRecDepth 100000 in
theorem ok_X2_wipe {l : Launch} {E : En} {o : Nat} {ad : (Nat → Nat)} {x : Ob} {r : Int32 × Ob} (hf : fX2_wipe x = some r) : CI l yX2_wipe wsX2_wipe (rmX2_wipe) [.ref o] E (w2 E o ad x) (w2 E o ad r.2) (r.1) := by
  refine xc_I (by decide) rfl (Nat.le_of_ble_eq_true rfl) [(0, .ref o)] rfl (fun p e s m below meth c A C hr => ?_)
  generalize ([.ref o] : List Value).toArray = args at C ⊢
  obtain ⟨Z, hZ⟩ : ∃ Z, Z = ZI E (w2 E o ad r.2) (r.1) A below args s 0 0 := ⟨_, rfl⟩
  rw [← hZ]
  have in2 : ∀ w ∈ wsX20, w ∈ wsX2_wipe := by decide +kernel
  have m15 : Cond.fieldLink RX2 15 "TurningTrees$Row" "length" "I" ∈ wsX2_wipe := by decide +kernel
  rw [fX2_wipe] at hf
  have h := hf
  refine xw_aload_n C dX2_wipe_0 rfl 0 rfl ?_
  refine xw_get C in2 0 rfl rfl 1 (by decide) m15 rfl rfl dX2_wipe_1 ?_
  refine xw_topi (fun b4 eb4 => ?_)
  have h := px_v h b4 eb4
  refine xw_istore_n C dX2_wipe_4 rfl (by decide) (lv' := [(1, .int b4), (0, .ref o)]) rfl ?_
  refine xw_aload_n C dX2_wipe_5 rfl 1 rfl ?_
  refine xw_iconst C (0) dX2_wipe_6 (by decide) ?_
  refine px_n h (fun x_7 ex_7 h => ?_)
  refine xw_put (w' := w2 E o ad x_7) C in2 tyX2 tyX2_ok nmX2 0 rfl rfl 1 (by decide) m15 rfl rfl rfl (Nat.le_of_ble_eq_true rfl) (by rw [ex_7]; rfl) dX2_wipe_7 ?_
  refine xw_iload_n C dX2_wipe_10 rfl 0 rfl ?_
  cases h
  rw [hZ]
  exact xw_iret C hr dX2_wipe_11
def fX2_changesInSpans_J62 (nn1 : Nat) (k5 : Int32 → Int32 → Int32 → Ob → (Nat → Int32) → Option (Int32 × (Nat → Int32))) (v1 : Int32) (v3 : Int32) (v4 : Int32) (v5 : Int32) (v6 : Int32) (x : Ob) (f1 : (Nat → Int32)) : Option (Int32 × (Nat → Int32)) :=
  Option.bind (fX5_put nn1 v6 v5 f1) (fun q67 =>
  px_let (v4 + (1) : Int32) (fun b70 =>
  k5 v1 v3 b70 x q67))
def fX2_changesInSpans_L5 (nn1 : Nat) : Nat → Int32 → Int32 → Int32 → Ob → (Nat → Int32) → Option (Int32 × (Nat → Int32))
  | 0, _, _, _, _, _ => none
  | n + 1, v1, v3, v4, x, f1 =>
  (if (x.1 1) ≤ v4 then
    some (v3, f1)
  else
    Option.bind (fX2_keyAt v4 x) (fun q17 =>
    px_let (((q17 >>> (v1 &&& 31)) &&& (1)) : Int32) (fun b24 =>
    Option.bind (fX2_keyAt v4 x) (fun q29 =>
    px_let (((q29 >>> (v1 &&& 31)) >>> ((1) &&& 31)) : Int32) (fun b36 =>
    Option.bind (fX5_at nn1 b36 f1) (fun q41 =>
    (if q41 = (-1) then
      fX2_changesInSpans_J62 nn1 (fX2_changesInSpans_L5 nn1 n) v1 v3 v4 b24 b36 x f1
    else
      (if q41 = b24 then
        fX2_changesInSpans_J62 nn1 (fX2_changesInSpans_L5 nn1 n) v1 v3 v4 b24 b36 x f1
      else
        px_let (v3 + (1) : Int32) (fun b59 =>
        fX2_changesInSpans_J62 nn1 (fX2_changesInSpans_L5 nn1 n) v1 b59 v4 b24 b36 x f1)))))))))
def fX2_changesInSpans (nn1 : Nat) (p1 : Int32) (x : Ob) (f1 : (Nat → Int32)) : Option (Int32 × (Nat → Int32)) :=
  fX2_changesInSpans_L5 nn1 FU p1 (0) (0) x f1
abbrev rmX2_changesInSpans : Room := { frames := 2, cells := 0, slots := 0, locals := 42 }
set_option maxHeartbeats 4000000 in
set_option maxRecDepth 100000 in
theorem ok_X2_changesInSpans {l : Launch} {E : En} {o : Nat} {ad : (Nat → Nat)} {a1 : Nat} {nn1 : Nat} {p1 : Int32} {x : Ob} {f1 : (Nat → Int32)} {r : Int32 × (Nat → Int32)} (hf : fX2_changesInSpans nn1 p1 x f1 = some r) : CI l yX2_changesInSpans wsX2_changesInSpans (rmX2_changesInSpans) [.ref o, .int p1, .ref a1] E (w2 E o ad x ++ wA E a1 nn1 f1) (w2 E o ad x ++ wA E a1 nn1 r.2) (r.1) := by
  refine xc_I (by decide) rfl (Nat.le_of_ble_eq_true rfl) [(0, .ref o), (1, .int p1), (2, .ref a1)] rfl (fun p e s m below meth c A C hr => ?_)
  generalize ([.ref o, .int p1, .ref a1] : List Value).toArray = args at C ⊢
  obtain ⟨Z, hZ⟩ : ∃ Z, Z = ZI E (w2 E o ad x ++ wA E a1 nn1 r.2) (r.1) A below args s 0 0 := ⟨_, rfl⟩
  rw [← hZ]
  have in2 : ∀ w ∈ wsX20, w ∈ wsX2_changesInSpans := by decide +kernel
  have m15 : Cond.fieldLink RX2 15 "TurningTrees$Row" "length" "I" ∈ wsX2_changesInSpans := by decide +kernel
  have hJ62 : ∀ (k5 : Int32 → Int32 → Int32 → Ob → (Nat → Int32) → Option (Int32 × (Nat → Int32))), (∀ (v1 : Int32), ∀ (v3 : Int32), ∀ (v4 : Int32), ∀ (f1 : (Nat → Int32)), k5 v1 v3 v4 x f1 = some r → XW E p l e rmX2_changesInSpans s m args below meth c Z A 0 0 (w2 E o ad x ++ wA E a1 nn1 f1) 5 8 [(0, .ref o), (1, .int v1), (2, .ref a1), (3, .int v3), (4, .int v4)] []) → ∀ (v1 : Int32), ∀ (v3 : Int32), ∀ (v4 : Int32), ∀ (v5 : Int32), ∀ (v6 : Int32), ∀ (f1 : (Nat → Int32)), fX2_changesInSpans_J62 nn1 k5 v1 v3 v4 v5 v6 x f1 = some r → XW E p l e rmX2_changesInSpans s m args below meth c Z A 0 0 (w2 E o ad x ++ wA E a1 nn1 f1) 62 8 [(0, .ref o), (1, .int v1), (2, .ref a1), (3, .int v3), (4, .int v4), (5, .int v5), (6, .int v6)] [] := by
    intro k5 hk5 v1 v3 v4 v5 v6 f1 h
    rw [fX2_changesInSpans_J62] at h
    refine xw_aload_n C dX2_changesInSpans_62 rfl 2 rfl ?_
    refine xw_iload C dX2_changesInSpans_63 6 rfl ?_
    refine xw_iload C dX2_changesInSpans_65 5 rfl ?_
    obtain ⟨q67, eq67, h⟩ := px_b h
    refine xw_callNV (w' := w2 E o ad x ++ wA E a1 nn1 q67) (u := (w2 E o ad x ++ wA E a1 nn1 f1).take 2) (v := (w2 E o ad x ++ wA E a1 nn1 f1).drop 3) C (ok_X5_put (a := a1) (nn := nn1) (f := f1) eq67) 3 gX2_changesInSpans_X5_put_n19 rfl ⟨rfl, rfl⟩ (by decide +kernel) (by decide +kernel) (by decide +kernel) (by decide +kernel) ⟨Nat.le_of_ble_eq_true rfl, Nat.le_of_ble_eq_true rfl⟩ rfl (Nat.le_of_ble_eq_true rfl) ⟨Nat.zero_le _, Nat.zero_le _⟩ rfl rfl (by rfl) dX2_changesInSpans_67 ?_
    refine px_n h (fun b70 eb70 h => ?_)
    refine xw_iinc (v := b70) C dX2_changesInSpans_70 4 rfl eb70 (by decide) (lv' := [(4, .int b70), (0, .ref o), (1, .int v1), (2, .ref a1), (3, .int v3), (5, .int v5), (6, .int v6)]) rfl ?_
    refine xw_goto C 5 dX2_changesInSpans_73 (by decide) ?_
    refine xw_perm [1, 2, 3, 4, 0] rfl ?_
    exact hk5 _ _ _ _ h
  have hL5 : ∀ n : Nat, ∀ (v1 : Int32), ∀ (v3 : Int32), ∀ (v4 : Int32), ∀ (f1 : (Nat → Int32)), fX2_changesInSpans_L5 nn1 n v1 v3 v4 x f1 = some r → XW E p l e rmX2_changesInSpans s m args below meth c Z A 0 0 (w2 E o ad x ++ wA E a1 nn1 f1) 5 8 [(0, .ref o), (1, .int v1), (2, .ref a1), (3, .int v3), (4, .int v4)] [] := by
    intro n
    induction n with
    | zero =>
      intro v1 v3 v4 f1 h
      rw [fX2_changesInSpans_L5] at h
      cases h
    | succ n ih =>
      intro v1 v3 v4 f1 h
      rw [fX2_changesInSpans_L5] at h
      refine xw_iload C dX2_changesInSpans_5 4 rfl ?_
      refine xw_aload_n C dX2_changesInSpans_7 rfl 0 rfl ?_
      refine xw_get C in2 0 rfl rfl 1 (by decide) m15 rfl rfl dX2_changesInSpans_8 ?_
      refine xw_icmp_ge C 76 dX2_changesInSpans_11 (by decide) (fun c11 => ?_) (fun c11 => ?_)
      · have h := px_t c11 h
        refine xw_iload_n C dX2_changesInSpans_76 rfl 3 rfl ?_
        cases h
        rw [hZ]
        exact xw_iret C hr dX2_changesInSpans_77
      · have h := px_f c11 h
        refine xw_aload_n C dX2_changesInSpans_14 rfl 0 rfl ?_
        refine xw_iload C dX2_changesInSpans_15 4 rfl ?_
        obtain ⟨q17, eq17, h⟩ := px_b h
        refine xw_callVI (w' := w2 E o ad x ++ wA E a1 nn1 f1) (u := (w2 E o ad x ++ wA E a1 nn1 f1).take 0) (v := (w2 E o ad x ++ wA E a1 nn1 f1).drop 2) C (ok_X2_keyAt (o := o) (ad := ad) (x := x) eq17) 1 gX2_changesInSpans_X2_keyAt rfl ⟨rfl, rfl⟩ (by decide +kernel) ⟨Nat.le_of_ble_eq_true rfl, Nat.le_of_ble_eq_true rfl⟩ 0 2 rfl rfl rfl (Nat.le_of_ble_eq_true rfl) ⟨Nat.zero_le _, Nat.zero_le _⟩ rfl rfl (by rfl) dX2_changesInSpans_17 ?_
        refine xw_iload_n C dX2_changesInSpans_20 rfl 1 rfl ?_
        refine xw_ishr C dX2_changesInSpans_21 ?_
        refine xw_iconst C (1) dX2_changesInSpans_22 (by decide) ?_
        refine xw_iand C dX2_changesInSpans_23 ?_
        refine xw_topi (fun b24 eb24 => ?_)
        have h := px_v h b24 eb24
        refine xw_istore C dX2_changesInSpans_24 (by decide) (lv' := [(5, .int b24), (0, .ref o), (1, .int v1), (2, .ref a1), (3, .int v3), (4, .int v4)]) rfl ?_
        refine xw_aload_n C dX2_changesInSpans_26 rfl 1 rfl ?_
        refine xw_iload C dX2_changesInSpans_27 5 rfl ?_
        obtain ⟨q29, eq29, h⟩ := px_b h
        refine xw_callVI (w' := w2 E o ad x ++ wA E a1 nn1 f1) (u := (w2 E o ad x ++ wA E a1 nn1 f1).take 0) (v := (w2 E o ad x ++ wA E a1 nn1 f1).drop 2) C (ok_X2_keyAt (o := o) (ad := ad) (x := x) eq29) 1 gX2_changesInSpans_X2_keyAt rfl ⟨rfl, rfl⟩ (by decide +kernel) ⟨Nat.le_of_ble_eq_true rfl, Nat.le_of_ble_eq_true rfl⟩ 0 2 rfl rfl rfl (Nat.le_of_ble_eq_true rfl) ⟨Nat.zero_le _, Nat.zero_le _⟩ rfl rfl (by rfl) dX2_changesInSpans_29 ?_
        refine xw_iload_n C dX2_changesInSpans_32 rfl 2 rfl ?_
        refine xw_ishr C dX2_changesInSpans_33 ?_
        refine xw_iconst C (1) dX2_changesInSpans_34 (by decide) ?_
        refine xw_ishr C dX2_changesInSpans_35 ?_
        refine xw_topi (fun b36 eb36 => ?_)
        have h := px_v h b36 eb36
        refine xw_istore C dX2_changesInSpans_36 (by decide) (lv' := [(6, .int b36), (5, .int b24), (0, .ref o), (1, .int v1), (2, .ref a1), (3, .int v3), (4, .int v4)]) rfl ?_
        refine xw_aload_n C dX2_changesInSpans_38 rfl 4 rfl ?_
        refine xw_iload C dX2_changesInSpans_39 0 rfl ?_
        obtain ⟨q41, eq41, h⟩ := px_b h
        refine xw_callNI (w' := w2 E o ad x ++ wA E a1 nn1 f1) (u := (w2 E o ad x ++ wA E a1 nn1 f1).take 2) (v := (w2 E o ad x ++ wA E a1 nn1 f1).drop 3) C (ok_X5_at (a := a1) (nn := nn1) (f := f1) eq41) 2 gX2_changesInSpans_X5_at_n23 rfl ⟨rfl, rfl⟩ (by decide +kernel) (by decide +kernel) (by decide +kernel) (by decide +kernel) ⟨Nat.le_of_ble_eq_true rfl, Nat.le_of_ble_eq_true rfl⟩ rfl (Nat.le_of_ble_eq_true rfl) ⟨Nat.zero_le _, Nat.zero_le _⟩ rfl rfl (by rfl) dX2_changesInSpans_41 ?_
        refine xw_istore C dX2_changesInSpans_44 (by decide) (lv' := [(7, .int q41), (6, .int b36), (5, .int b24), (0, .ref o), (1, .int v1), (2, .ref a1), (3, .int v3), (4, .int v4)]) rfl ?_
        refine xw_iload C dX2_changesInSpans_46 0 rfl ?_
        refine xw_iconst C (-1) dX2_changesInSpans_48 (by decide) ?_
        refine xw_icmp_eq C 62 dX2_changesInSpans_49 (by decide) (fun c49 => ?_) (fun c49 => ?_)
        · have h := px_t c49 h
          refine xw_perm [3, 4, 5, 6, 7, 2, 1] rfl ?_
          exact hJ62 _ ih _ _ _ _ _ _ h
        · have h := px_f c49 h
          refine xw_iload C dX2_changesInSpans_52 0 rfl ?_
          refine xw_iload C dX2_changesInSpans_54 2 rfl ?_
          refine xw_icmp_eq C 62 dX2_changesInSpans_56 (by decide) (fun c56 => ?_) (fun c56 => ?_)
          · have h := px_t c56 h
            refine xw_perm [3, 4, 5, 6, 7, 2, 1] rfl ?_
            exact hJ62 _ ih _ _ _ _ _ _ h
          · have h := px_f c56 h
            refine px_n h (fun b59 eb59 h => ?_)
            refine xw_iinc (v := b59) C dX2_changesInSpans_59 6 rfl eb59 (by decide) (lv' := [(3, .int b59), (7, .int q41), (6, .int b36), (5, .int b24), (0, .ref o), (1, .int v1), (2, .ref a1), (4, .int v4)]) rfl ?_
            refine xw_perm [4, 5, 6, 0, 7, 3, 2] rfl ?_
            exact hJ62 _ ih _ _ _ _ _ _ h
  rw [fX2_changesInSpans] at hf
  have h := hf
  refine xw_iconst C (0) dX2_changesInSpans_0 (by decide) ?_
  refine xw_istore_n C dX2_changesInSpans_1 rfl (by decide) (lv' := [(3, .int (0)), (0, .ref o), (1, .int p1), (2, .ref a1)]) rfl ?_
  refine xw_iconst C (0) dX2_changesInSpans_2 (by decide) ?_
  refine xw_istore C dX2_changesInSpans_3 (by decide) (lv' := [(4, .int (0)), (3, .int (0)), (0, .ref o), (1, .int p1), (2, .ref a1)]) rfl ?_
  refine xw_perm [2, 3, 4, 1, 0] rfl ?_
  exact hL5 _ _ _ _ _ h
def fX2_changesOfHalf_L4 (nn1 : Nat) : Nat → Int32 → Int32 → Ob → (Nat → Int32) → Option (Int32 × (Nat → Int32))
  | 0, _, _, _, _ => none
  | n + 1, v2, v3, x, f1 =>
  (if (6) ≤ v3 then
    some (v2, f1)
  else
    Option.bind (fJ7_fill_53178 nn1 (-1) f1) (fun q12 =>
    Option.bind (fX2_changesInSpans nn1 v3 x q12) (fun q19 =>
    px_let ((v2 + q19.1) : Int32) (fun b23 =>
    px_let (v3 + (1) : Int32) (fun b24 =>
    fX2_changesOfHalf_L4 nn1 n b23 b24 x q19.2)))))
def fX2_changesOfHalf (nn1 : Nat) (x : Ob) (f1 : (Nat → Int32)) : Option (Int32 × (Nat → Int32)) :=
  fX2_changesOfHalf_L4 nn1 FU (0) (0) x f1
abbrev rmX2_changesOfHalf : Room := { frames := 3, cells := 0, slots := 0, locals := 69 }
set_option maxHeartbeats 4000000 in
set_option maxRecDepth 100000 in
theorem ok_X2_changesOfHalf {l : Launch} {E : En} {o : Nat} {ad : (Nat → Nat)} {a1 : Nat} {nn1 : Nat} {x : Ob} {f1 : (Nat → Int32)} {r : Int32 × (Nat → Int32)} (hf : fX2_changesOfHalf nn1 x f1 = some r) : CI l yX2_changesOfHalf wsX2_changesOfHalf (rmX2_changesOfHalf) [.ref o, .ref a1] E (w2 E o ad x ++ wA E a1 nn1 f1) (w2 E o ad x ++ wA E a1 nn1 r.2) (r.1) := by
  refine xc_I (by decide) rfl (Nat.le_of_ble_eq_true rfl) [(0, .ref o), (1, .ref a1)] rfl (fun p e s m below meth c A C hr => ?_)
  generalize ([.ref o, .ref a1] : List Value).toArray = args at C ⊢
  obtain ⟨Z, hZ⟩ : ∃ Z, Z = ZI E (w2 E o ad x ++ wA E a1 nn1 r.2) (r.1) A below args s 0 0 := ⟨_, rfl⟩
  rw [← hZ]
  have hL4 : ∀ n : Nat, ∀ (v2 : Int32), ∀ (v3 : Int32), ∀ (f1 : (Nat → Int32)), fX2_changesOfHalf_L4 nn1 n v2 v3 x f1 = some r → XW E p l e rmX2_changesOfHalf s m args below meth c Z A 0 0 (w2 E o ad x ++ wA E a1 nn1 f1) 4 4 [(0, .ref o), (1, .ref a1), (2, .int v2), (3, .int v3)] [] := by
    intro n
    induction n with
    | zero =>
      intro v2 v3 f1 h
      rw [fX2_changesOfHalf_L4] at h
      cases h
    | succ n ih =>
      intro v2 v3 f1 h
      rw [fX2_changesOfHalf_L4] at h
      refine xw_iload_n C dX2_changesOfHalf_4 rfl 3 rfl ?_
      refine xw_bipush C (6) dX2_changesOfHalf_5 (by decide) ?_
      refine xw_icmp_ge C 30 dX2_changesOfHalf_7 (by decide) (fun c7 => ?_) (fun c7 => ?_)
      · have h := px_t c7 h
        refine xw_iload_n C dX2_changesOfHalf_30 rfl 2 rfl ?_
        cases h
        rw [hZ]
        exact xw_iret C hr dX2_changesOfHalf_31
      · have h := px_f c7 h
        refine xw_aload_n C dX2_changesOfHalf_10 rfl 1 rfl ?_
        refine xw_iconst C (-1) dX2_changesOfHalf_11 (by decide) ?_
        obtain ⟨q12, eq12, h⟩ := px_b h
        refine xw_callSV (w' := w2 E o ad x ++ wA E a1 nn1 q12) (u := (w2 E o ad x ++ wA E a1 nn1 f1).take 2) (v := (w2 E o ad x ++ wA E a1 nn1 f1).drop 3) C (ok_J7_fill_53178 (a := a1) (nn := nn1) (f := f1) eq12) 2 gX2_changesOfHalf_J7_fill_53178 rfl ⟨rfl, rfl⟩ (by decide +kernel) ⟨Nat.le_of_ble_eq_true rfl, Nat.le_of_ble_eq_true rfl⟩ rfl (Nat.le_of_ble_eq_true rfl) ⟨Nat.zero_le _, Nat.zero_le _⟩ rfl rfl (by rfl) dX2_changesOfHalf_12 ?_
        refine xw_iload_n C dX2_changesOfHalf_15 rfl 2 rfl ?_
        refine xw_aload_n C dX2_changesOfHalf_16 rfl 0 rfl ?_
        refine xw_iload_n C dX2_changesOfHalf_17 rfl 3 rfl ?_
        refine xw_aload_n C dX2_changesOfHalf_18 rfl 1 rfl ?_
        obtain ⟨q19, eq19, h⟩ := px_b h
        refine xw_callVI (w' := w2 E o ad x ++ wA E a1 nn1 q19.2) (u := []) (v := []) C (ok_X2_changesInSpans (o := o) (ad := ad) (a1 := a1) (nn1 := nn1) (x := x) (f1 := q12) eq19) 2 gX2_changesOfHalf_X2_changesInSpans rfl ⟨rfl, rfl⟩ (by decide +kernel) ⟨Nat.le_of_ble_eq_true rfl, Nat.le_of_ble_eq_true rfl⟩ 0 2 rfl rfl rfl (Nat.le_of_ble_eq_true rfl) ⟨Nat.zero_le _, Nat.zero_le _⟩ rfl xe0 xe0.symm dX2_changesOfHalf_19 ?_
        refine xw_iadd C dX2_changesOfHalf_22 ?_
        refine xw_topi (fun b23 eb23 => ?_)
        have h := px_v h b23 eb23
        refine xw_istore_n C dX2_changesOfHalf_23 rfl (by decide) (lv' := [(2, .int b23), (0, .ref o), (1, .ref a1), (3, .int v3)]) rfl ?_
        refine px_n h (fun b24 eb24 h => ?_)
        refine xw_iinc (v := b24) C dX2_changesOfHalf_24 3 rfl eb24 (by decide) (lv' := [(3, .int b24), (2, .int b23), (0, .ref o), (1, .ref a1)]) rfl ?_
        refine xw_goto C 4 dX2_changesOfHalf_27 (by decide) ?_
        refine xw_perm [2, 3, 1, 0] rfl ?_
        exact ih _ _ _ h
  rw [fX2_changesOfHalf] at hf
  have h := hf
  refine xw_iconst C (0) dX2_changesOfHalf_0 (by decide) ?_
  refine xw_istore_n C dX2_changesOfHalf_1 rfl (by decide) (lv' := [(2, .int (0)), (0, .ref o), (1, .ref a1)]) rfl ?_
  refine xw_iconst C (0) dX2_changesOfHalf_2 (by decide) ?_
  refine xw_istore_n C dX2_changesOfHalf_3 rfl (by decide) (lv' := [(3, .int (0)), (2, .int (0)), (0, .ref o), (1, .ref a1)]) rfl ?_
  refine xw_perm [2, 3, 1, 0] rfl ?_
  exact hL4 _ _ _ _ h
def fX2_touchesToSide_J57 (nn : Nat) (k13 : Int32 → Int32 → Int32 → Int32 → Int32 → Int32 → (Nat → Int32) → Option (Int32 × (Nat → Int32))) (v0 : Int32) (v1 : Int32) (v2 : Int32) (v4 : Int32) (v5 : Int32) (v6 : Int32) (f : (Nat → Int32)) : Option (Int32 × (Nat → Int32)) :=
  px_let (v6 + (1) : Int32) (fun b57 =>
  k13 v0 v1 v2 v4 v5 b57 f)
def fX2_touchesToSide_L13 (nn : Nat) : Nat → Int32 → Int32 → Int32 → Int32 → Int32 → Int32 → (Nat → Int32) → Option (Int32 × (Nat → Int32))
  | 0, _, _, _, _, _, _, _ => none
  | n + 1, v0, v1, v2, v4, v5, v6, f =>
  (if (64) ≤ v6 then
    some (v4, f)
  else
    px_let ((v0 + (v1 * v6)) : Int32) (fun b26 =>
    Option.bind (fX5_at nn b26 f) (fun q31 =>
    (if q31 ≤ v5 then
      fX2_touchesToSide_J57 nn (fX2_touchesToSide_L13 nn n) v0 v1 v2 v4 v5 v6 f
    else
      px_let (v4 + (1) : Int32) (fun b43 =>
      Option.bind (fX5_put nn b26 v2 f) (fun q54 =>
      fX2_touchesToSide_J57 nn (fX2_touchesToSide_L13 nn n) v0 v1 v2 b43 q31 v6 q54))))))
def fX2_touchesToSide (nn : Nat) (p0 : Int32) (p1 : Int32) (p2 : Int32) (f : (Nat → Int32)) : Option (Int32 × (Nat → Int32)) :=
  Option.bind (fX5_at nn p0 f) (fun q5 =>
  fX2_touchesToSide_L13 nn FU p0 p1 p2 (0) q5 (1) f)
abbrev rmX2_touchesToSide : Room := { frames := 1, cells := 0, slots := 0, locals := 22 }
set_option maxHeartbeats 4000000 in
set_option maxRecDepth 100000 in
theorem ok_X2_touchesToSide {l : Launch} {E : En} {a : Nat} {nn : Nat} {p0 : Int32} {p1 : Int32} {p2 : Int32} {f : (Nat → Int32)} {r : Int32 × (Nat → Int32)} (hf : fX2_touchesToSide nn p0 p1 p2 f = some r) : CI l yX2_touchesToSide wsX2_touchesToSide (rmX2_touchesToSide) [.int p0, .int p1, .int p2, .ref a] E (wA E a nn f) (wA E a nn r.2) (r.1) := by
  refine xc_I (by decide) rfl (Nat.le_of_ble_eq_true rfl) [(0, .int p0), (1, .int p1), (2, .int p2), (3, .ref a)] rfl (fun p e s m below meth c A C hr => ?_)
  generalize ([.int p0, .int p1, .int p2, .ref a] : List Value).toArray = args at C ⊢
  obtain ⟨Z, hZ⟩ : ∃ Z, Z = ZI E (wA E a nn r.2) (r.1) A below args s 0 0 := ⟨_, rfl⟩
  rw [← hZ]
  have hJ57 : ∀ (k13 : Int32 → Int32 → Int32 → Int32 → Int32 → Int32 → (Nat → Int32) → Option (Int32 × (Nat → Int32))), (∀ (v0 : Int32), ∀ (v1 : Int32), ∀ (v2 : Int32), ∀ (v4 : Int32), ∀ (v5 : Int32), ∀ (v6 : Int32), ∀ (f : (Nat → Int32)), k13 v0 v1 v2 v4 v5 v6 f = some r → XW E p l e rmX2_touchesToSide s m args below meth c Z A 0 0 (wA E a nn f) 13 9 [(0, .int v0), (1, .int v1), (2, .int v2), (3, .ref a), (4, .int v4), (5, .int v5), (6, .int v6)] []) → ∀ (v0 : Int32), ∀ (v1 : Int32), ∀ (v2 : Int32), ∀ (v4 : Int32), ∀ (v5 : Int32), ∀ (v6 : Int32), ∀ (f : (Nat → Int32)), fX2_touchesToSide_J57 nn k13 v0 v1 v2 v4 v5 v6 f = some r → XW E p l e rmX2_touchesToSide s m args below meth c Z A 0 0 (wA E a nn f) 57 9 [(0, .int v0), (1, .int v1), (2, .int v2), (3, .ref a), (4, .int v4), (5, .int v5), (6, .int v6)] [] := by
    intro k13 hk13 v0 v1 v2 v4 v5 v6 f h
    rw [fX2_touchesToSide_J57] at h
    refine px_n h (fun b57 eb57 h => ?_)
    refine xw_iinc (v := b57) C dX2_touchesToSide_57 6 rfl eb57 (by decide) (lv' := [(6, .int b57), (0, .int v0), (1, .int v1), (2, .int v2), (3, .ref a), (4, .int v4), (5, .int v5)]) rfl ?_
    refine xw_goto C 13 dX2_touchesToSide_60 (by decide) ?_
    refine xw_perm [1, 2, 3, 4, 5, 6, 0] rfl ?_
    exact hk13 _ _ _ _ _ _ _ h
  have hL13 : ∀ n : Nat, ∀ (v0 : Int32), ∀ (v1 : Int32), ∀ (v2 : Int32), ∀ (v4 : Int32), ∀ (v5 : Int32), ∀ (v6 : Int32), ∀ (f : (Nat → Int32)), fX2_touchesToSide_L13 nn n v0 v1 v2 v4 v5 v6 f = some r → XW E p l e rmX2_touchesToSide s m args below meth c Z A 0 0 (wA E a nn f) 13 9 [(0, .int v0), (1, .int v1), (2, .int v2), (3, .ref a), (4, .int v4), (5, .int v5), (6, .int v6)] [] := by
    intro n
    induction n with
    | zero =>
      intro v0 v1 v2 v4 v5 v6 f h
      rw [fX2_touchesToSide_L13] at h
      cases h
    | succ n ih =>
      intro v0 v1 v2 v4 v5 v6 f h
      rw [fX2_touchesToSide_L13] at h
      refine xw_iload C dX2_touchesToSide_13 6 rfl ?_
      refine xw_bipush C (64) dX2_touchesToSide_15 (by decide) ?_
      refine xw_icmp_ge C 63 dX2_touchesToSide_17 (by decide) (fun c17 => ?_) (fun c17 => ?_)
      · have h := px_t c17 h
        refine xw_iload C dX2_touchesToSide_63 4 rfl ?_
        cases h
        rw [hZ]
        exact xw_iret C hr dX2_touchesToSide_65
      · have h := px_f c17 h
        refine xw_iload_n C dX2_touchesToSide_20 rfl 0 rfl ?_
        refine xw_iload_n C dX2_touchesToSide_21 rfl 1 rfl ?_
        refine xw_iload C dX2_touchesToSide_22 6 rfl ?_
        refine xw_imul C dX2_touchesToSide_24 ?_
        refine xw_iadd C dX2_touchesToSide_25 ?_
        refine xw_topi (fun b26 eb26 => ?_)
        have h := px_v h b26 eb26
        refine xw_istore C dX2_touchesToSide_26 (by decide) (lv' := [(7, .int b26), (0, .int v0), (1, .int v1), (2, .int v2), (3, .ref a), (4, .int v4), (5, .int v5), (6, .int v6)]) rfl ?_
        refine xw_aload_n C dX2_touchesToSide_28 rfl 4 rfl ?_
        refine xw_iload C dX2_touchesToSide_29 0 rfl ?_
        obtain ⟨q31, eq31, h⟩ := px_b h
        refine xw_callNI (w' := wA E a nn f) (u := []) (v := []) C (ok_X5_at (a := a) (nn := nn) (f := f) eq31) 2 gX2_touchesToSide_X5_at_n23 rfl ⟨rfl, rfl⟩ (by decide +kernel) (by decide +kernel) (by decide +kernel) (by decide +kernel) ⟨Nat.le_of_ble_eq_true rfl, Nat.le_of_ble_eq_true rfl⟩ rfl (Nat.le_of_ble_eq_true rfl) ⟨Nat.zero_le _, Nat.zero_le _⟩ rfl xe0 xe0.symm dX2_touchesToSide_31 ?_
        refine xw_istore C dX2_touchesToSide_34 (by decide) (lv' := [(8, .int q31), (7, .int b26), (0, .int v0), (1, .int v1), (2, .int v2), (3, .ref a), (4, .int v4), (5, .int v5), (6, .int v6)]) rfl ?_
        refine xw_iload C dX2_touchesToSide_36 0 rfl ?_
        refine xw_iload C dX2_touchesToSide_38 7 rfl ?_
        refine xw_icmp_le C 57 dX2_touchesToSide_40 (by decide) (fun c40 => ?_) (fun c40 => ?_)
        · have h := px_t c40 h
          refine xw_perm [2, 3, 4, 5, 6, 7, 8] rfl ?_
          exact hJ57 _ ih _ _ _ _ _ _ _ h
        · have h := px_f c40 h
          refine px_n h (fun b43 eb43 h => ?_)
          refine xw_iinc (v := b43) C dX2_touchesToSide_43 6 rfl eb43 (by decide) (lv' := [(4, .int b43), (8, .int q31), (7, .int b26), (0, .int v0), (1, .int v1), (2, .int v2), (3, .ref a), (5, .int v5), (6, .int v6)]) rfl ?_
          refine xw_iload C dX2_touchesToSide_46 1 rfl ?_
          refine xw_istore C dX2_touchesToSide_48 (by decide) (lv' := [(5, .int q31), (4, .int b43), (8, .int q31), (7, .int b26), (0, .int v0), (1, .int v1), (2, .int v2), (3, .ref a), (6, .int v6)]) rfl ?_
          refine xw_aload_n C dX2_touchesToSide_50 rfl 7 rfl ?_
          refine xw_iload C dX2_touchesToSide_51 3 rfl ?_
          refine xw_iload_n C dX2_touchesToSide_53 rfl 6 rfl ?_
          obtain ⟨q54, eq54, h⟩ := px_b h
          refine xw_callNV (w' := wA E a nn q54) (u := []) (v := []) C (ok_X5_put (a := a) (nn := nn) (f := f) eq54) 3 gX2_touchesToSide_X5_put_n19 rfl ⟨rfl, rfl⟩ (by decide +kernel) (by decide +kernel) (by decide +kernel) (by decide +kernel) ⟨Nat.le_of_ble_eq_true rfl, Nat.le_of_ble_eq_true rfl⟩ rfl (Nat.le_of_ble_eq_true rfl) ⟨Nat.zero_le _, Nat.zero_le _⟩ rfl xe0 xe0.symm dX2_touchesToSide_54 ?_
          refine xw_perm [4, 5, 6, 7, 1, 0, 8] rfl ?_
          exact hJ57 _ ih _ _ _ _ _ _ _ h
  rw [fX2_touchesToSide] at hf
  have h := hf
  refine xw_iconst C (0) dX2_touchesToSide_0 (by decide) ?_
  refine xw_istore C dX2_touchesToSide_1 (by decide) (lv' := [(4, .int (0)), (0, .int p0), (1, .int p1), (2, .int p2), (3, .ref a)]) rfl ?_
  refine xw_aload_n C dX2_touchesToSide_3 rfl 4 rfl ?_
  refine xw_iload_n C dX2_touchesToSide_4 rfl 1 rfl ?_
  obtain ⟨q5, eq5, h⟩ := px_b h
  refine xw_callNI (w' := wA E a nn f) (u := []) (v := []) C (ok_X5_at (a := a) (nn := nn) (f := f) eq5) 2 gX2_touchesToSide_X5_at_n23 rfl ⟨rfl, rfl⟩ (by decide +kernel) (by decide +kernel) (by decide +kernel) (by decide +kernel) ⟨Nat.le_of_ble_eq_true rfl, Nat.le_of_ble_eq_true rfl⟩ rfl (Nat.le_of_ble_eq_true rfl) ⟨Nat.zero_le _, Nat.zero_le _⟩ rfl xe0 xe0.symm dX2_touchesToSide_5 ?_
  refine xw_istore C dX2_touchesToSide_8 (by decide) (lv' := [(5, .int q5), (4, .int (0)), (0, .int p0), (1, .int p1), (2, .int p2), (3, .ref a)]) rfl ?_
  refine xw_iconst C (1) dX2_touchesToSide_10 (by decide) ?_
  refine xw_istore C dX2_touchesToSide_11 (by decide) (lv' := [(6, .int (1)), (5, .int q5), (4, .int (0)), (0, .int p0), (1, .int p1), (2, .int p2), (3, .ref a)]) rfl ?_
  refine xw_perm [3, 4, 5, 6, 2, 1, 0] rfl ?_
  exact hL13 _ _ _ _ _ _ _ _ h
def fX2_touches_L9 (nn1 : Nat) : Nat → Int32 → Int32 → Ob → (Nat → Int32) → Option (Int32 × (Nat → Int32))
  | 0, _, _, _, _ => none
  | n + 1, v2, v3, x, f1 =>
  (if (x.1 1) ≤ v3 then
    some (v2, f1)
  else
    Option.bind (fX2_keyAt v3 x) (fun q19 =>
    Option.bind (fX2_touchesToSide nn1 q19 (-1) (v3 + (1)) f1) (fun q33 =>
    px_let ((v2 + ((1) + q33.1)) : Int32) (fun b38 =>
    Option.bind (fX2_touchesToSide nn1 q19 (1) (v3 + (1)) q33.2) (fun q47 =>
    px_let ((b38 + q47.1) : Int32) (fun b51 =>
    Option.bind (fX5_put nn1 q19 (v3 + (1)) q47.2) (fun q58 =>
    px_let (v3 + (1) : Int32) (fun b61 =>
    fX2_touches_L9 nn1 n b51 b61 x q58))))))))
def fX2_touches (nn1 : Nat) (x : Ob) (f1 : (Nat → Int32)) : Option (Int32 × (Nat → Int32)) :=
  Option.bind (fJ7_fill_53178 nn1 (0) f1) (fun q2 =>
  fX2_touches_L9 nn1 FU (0) (0) x q2)
abbrev rmX2_touches : Room := { frames := 2, cells := 0, slots := 0, locals := 50 }
set_option maxHeartbeats 4000000 in
set_option maxRecDepth 100000 in
theorem ok_X2_touches {l : Launch} {E : En} {o : Nat} {ad : (Nat → Nat)} {a1 : Nat} {nn1 : Nat} {x : Ob} {f1 : (Nat → Int32)} {r : Int32 × (Nat → Int32)} (hf : fX2_touches nn1 x f1 = some r) : CI l yX2_touches wsX2_touches (rmX2_touches) [.ref o, .ref a1] E (w2 E o ad x ++ wA E a1 nn1 f1) (w2 E o ad x ++ wA E a1 nn1 r.2) (r.1) := by
  refine xc_I (by decide) rfl (Nat.le_of_ble_eq_true rfl) [(0, .ref o), (1, .ref a1)] rfl (fun p e s m below meth c A C hr => ?_)
  generalize ([.ref o, .ref a1] : List Value).toArray = args at C ⊢
  obtain ⟨Z, hZ⟩ : ∃ Z, Z = ZI E (w2 E o ad x ++ wA E a1 nn1 r.2) (r.1) A below args s 0 0 := ⟨_, rfl⟩
  rw [← hZ]
  have in2 : ∀ w ∈ wsX20, w ∈ wsX2_touches := by decide +kernel
  have m15 : Cond.fieldLink RX2 15 "TurningTrees$Row" "length" "I" ∈ wsX2_touches := by decide +kernel
  have hL9 : ∀ n : Nat, ∀ (v2 : Int32), ∀ (v3 : Int32), ∀ (f1 : (Nat → Int32)), fX2_touches_L9 nn1 n v2 v3 x f1 = some r → XW E p l e rmX2_touches s m args below meth c Z A 0 0 (w2 E o ad x ++ wA E a1 nn1 f1) 9 5 [(0, .ref o), (1, .ref a1), (2, .int v2), (3, .int v3)] [] := by
    intro n
    induction n with
    | zero =>
      intro v2 v3 f1 h
      rw [fX2_touches_L9] at h
      cases h
    | succ n ih =>
      intro v2 v3 f1 h
      rw [fX2_touches_L9] at h
      refine xw_iload_n C dX2_touches_9 rfl 3 rfl ?_
      refine xw_aload_n C dX2_touches_10 rfl 0 rfl ?_
      refine xw_get C in2 0 rfl rfl 1 (by decide) m15 rfl rfl dX2_touches_11 ?_
      refine xw_icmp_ge C 67 dX2_touches_14 (by decide) (fun c14 => ?_) (fun c14 => ?_)
      · have h := px_t c14 h
        refine xw_iload_n C dX2_touches_67 rfl 2 rfl ?_
        cases h
        rw [hZ]
        exact xw_iret C hr dX2_touches_68
      · have h := px_f c14 h
        refine xw_aload_n C dX2_touches_17 rfl 0 rfl ?_
        refine xw_iload_n C dX2_touches_18 rfl 3 rfl ?_
        obtain ⟨q19, eq19, h⟩ := px_b h
        refine xw_callVI (w' := w2 E o ad x ++ wA E a1 nn1 f1) (u := (w2 E o ad x ++ wA E a1 nn1 f1).take 0) (v := (w2 E o ad x ++ wA E a1 nn1 f1).drop 2) C (ok_X2_keyAt (o := o) (ad := ad) (x := x) eq19) 1 gX2_touches_X2_keyAt rfl ⟨rfl, rfl⟩ (by decide +kernel) ⟨Nat.le_of_ble_eq_true rfl, Nat.le_of_ble_eq_true rfl⟩ 0 2 rfl rfl rfl (Nat.le_of_ble_eq_true rfl) ⟨Nat.zero_le _, Nat.zero_le _⟩ rfl rfl (by rfl) dX2_touches_19 ?_
        refine xw_istore C dX2_touches_22 (by decide) (lv' := [(4, .int q19), (0, .ref o), (1, .ref a1), (2, .int v2), (3, .int v3)]) rfl ?_
        refine xw_iload_n C dX2_touches_24 rfl 3 rfl ?_
        refine xw_iconst C (1) dX2_touches_25 (by decide) ?_
        refine xw_iload C dX2_touches_26 0 rfl ?_
        refine xw_iconst C (-1) dX2_touches_28 (by decide) ?_
        refine xw_iload_n C dX2_touches_29 rfl 4 rfl ?_
        refine xw_iconst C (1) dX2_touches_30 (by decide) ?_
        refine xw_iadd C dX2_touches_31 ?_
        refine xw_aload_n C dX2_touches_32 rfl 2 rfl ?_
        obtain ⟨q33, eq33, h⟩ := px_b h
        refine xw_callSI (w' := w2 E o ad x ++ wA E a1 nn1 q33.2) (u := (w2 E o ad x ++ wA E a1 nn1 f1).take 2) (v := (w2 E o ad x ++ wA E a1 nn1 f1).drop 3) C (ok_X2_touchesToSide (a := a1) (nn := nn1) (f := f1) eq33) 4 gX2_touches_X2_touchesToSide rfl ⟨rfl, rfl⟩ (by decide +kernel) ⟨Nat.le_of_ble_eq_true rfl, Nat.le_of_ble_eq_true rfl⟩ rfl (Nat.le_of_ble_eq_true rfl) ⟨Nat.zero_le _, Nat.zero_le _⟩ rfl rfl (by rfl) dX2_touches_33 ?_
        refine xw_iadd C dX2_touches_36 ?_
        refine xw_iadd C dX2_touches_37 ?_
        refine xw_topi (fun b38 eb38 => ?_)
        have h := px_v h b38 eb38
        refine xw_istore_n C dX2_touches_38 rfl (by decide) (lv' := [(2, .int b38), (4, .int q19), (0, .ref o), (1, .ref a1), (3, .int v3)]) rfl ?_
        refine xw_iload_n C dX2_touches_39 rfl 0 rfl ?_
        refine xw_iload C dX2_touches_40 1 rfl ?_
        refine xw_iconst C (1) dX2_touches_42 (by decide) ?_
        refine xw_iload_n C dX2_touches_43 rfl 4 rfl ?_
        refine xw_iconst C (1) dX2_touches_44 (by decide) ?_
        refine xw_iadd C dX2_touches_45 ?_
        refine xw_aload_n C dX2_touches_46 rfl 3 rfl ?_
        obtain ⟨q47, eq47, h⟩ := px_b h
        refine xw_callSI (w' := w2 E o ad x ++ wA E a1 nn1 q47.2) (u := (w2 E o ad x ++ wA E a1 nn1 q33.2).take 2) (v := (w2 E o ad x ++ wA E a1 nn1 q33.2).drop 3) C (ok_X2_touchesToSide (a := a1) (nn := nn1) (f := q33.2) eq47) 4 gX2_touches_X2_touchesToSide rfl ⟨rfl, rfl⟩ (by decide +kernel) ⟨Nat.le_of_ble_eq_true rfl, Nat.le_of_ble_eq_true rfl⟩ rfl (Nat.le_of_ble_eq_true rfl) ⟨Nat.zero_le _, Nat.zero_le _⟩ rfl rfl (by rfl) dX2_touches_47 ?_
        refine xw_iadd C dX2_touches_50 ?_
        refine xw_topi (fun b51 eb51 => ?_)
        have h := px_v h b51 eb51
        refine xw_istore_n C dX2_touches_51 rfl (by decide) (lv' := [(2, .int b51), (4, .int q19), (0, .ref o), (1, .ref a1), (3, .int v3)]) rfl ?_
        refine xw_aload_n C dX2_touches_52 rfl 3 rfl ?_
        refine xw_iload C dX2_touches_53 1 rfl ?_
        refine xw_iload_n C dX2_touches_55 rfl 4 rfl ?_
        refine xw_iconst C (1) dX2_touches_56 (by decide) ?_
        refine xw_iadd C dX2_touches_57 ?_
        obtain ⟨q58, eq58, h⟩ := px_b h
        refine xw_callNV (w' := w2 E o ad x ++ wA E a1 nn1 q58) (u := (w2 E o ad x ++ wA E a1 nn1 q47.2).take 2) (v := (w2 E o ad x ++ wA E a1 nn1 q47.2).drop 3) C (ok_X5_put (a := a1) (nn := nn1) (f := q47.2) eq58) 3 gX2_touches_X5_put_n19 rfl ⟨rfl, rfl⟩ (by decide +kernel) (by decide +kernel) (by decide +kernel) (by decide +kernel) ⟨Nat.le_of_ble_eq_true rfl, Nat.le_of_ble_eq_true rfl⟩ rfl (Nat.le_of_ble_eq_true rfl) ⟨Nat.zero_le _, Nat.zero_le _⟩ rfl rfl (by rfl) dX2_touches_58 ?_
        refine px_n h (fun b61 eb61 h => ?_)
        refine xw_iinc (v := b61) C dX2_touches_61 4 rfl eb61 (by decide) (lv' := [(3, .int b61), (2, .int b51), (4, .int q19), (0, .ref o), (1, .ref a1)]) rfl ?_
        refine xw_goto C 9 dX2_touches_64 (by decide) ?_
        refine xw_perm [3, 4, 1, 0] rfl ?_
        exact ih _ _ _ h
  rw [fX2_touches] at hf
  have h := hf
  refine xw_aload_n C dX2_touches_0 rfl 1 rfl ?_
  refine xw_iconst C (0) dX2_touches_1 (by decide) ?_
  obtain ⟨q2, eq2, h⟩ := px_b h
  refine xw_callSV (w' := w2 E o ad x ++ wA E a1 nn1 q2) (u := (w2 E o ad x ++ wA E a1 nn1 f1).take 2) (v := (w2 E o ad x ++ wA E a1 nn1 f1).drop 3) C (ok_J7_fill_53178 (a := a1) (nn := nn1) (f := f1) eq2) 2 gX2_touches_J7_fill_53178 rfl ⟨rfl, rfl⟩ (by decide +kernel) ⟨Nat.le_of_ble_eq_true rfl, Nat.le_of_ble_eq_true rfl⟩ rfl (Nat.le_of_ble_eq_true rfl) ⟨Nat.zero_le _, Nat.zero_le _⟩ rfl rfl (by rfl) dX2_touches_2 ?_
  refine xw_iconst C (0) dX2_touches_5 (by decide) ?_
  refine xw_istore_n C dX2_touches_6 rfl (by decide) (lv' := [(2, .int (0)), (0, .ref o), (1, .ref a1)]) rfl ?_
  refine xw_iconst C (0) dX2_touches_7 (by decide) ?_
  refine xw_istore_n C dX2_touches_8 rfl (by decide) (lv' := [(3, .int (0)), (2, .int (0)), (0, .ref o), (1, .ref a1)]) rfl ?_
  refine xw_perm [2, 3, 1, 0] rfl ?_
  exact hL9 _ _ _ _ h
def fX3_keysHeld (x : Ob) : Option (Int32) :=
  Option.bind (fX3_sizeOf (x.1 5) x) (fun q5 =>
  some q5)
abbrev rmX3_keysHeld : Room := { frames := 1, cells := 0, slots := 0, locals := 21 }
set_option maxHeartbeats 4000000 in
set_option maxRecDepth 100000 in
theorem ok_X3_keysHeld {l : Launch} {E : En} {o : Nat} {ad : (Nat → Nat)} {x : Ob} {r : Int32} (hf : fX3_keysHeld x = some r) : CI l yX3_keysHeld wsX3_keysHeld (rmX3_keysHeld) [.ref o] E (w3 E o ad x) (w3 E o ad x) (r) := by
  refine xc_I (by decide) rfl (Nat.le_of_ble_eq_true rfl) [(0, .ref o)] rfl (fun p e s m below meth c A C hr => ?_)
  generalize ([.ref o] : List Value).toArray = args at C ⊢
  obtain ⟨Z, hZ⟩ : ∃ Z, Z = ZI E (w3 E o ad x) (r) A below args s 0 0 := ⟨_, rfl⟩
  rw [← hZ]
  have in3 : ∀ w ∈ wsX30, w ∈ wsX3_keysHeld := by decide +kernel
  have m33 : Cond.fieldLink RX3 33 "TurningTrees$Shape" "root" "I" ∈ wsX3_keysHeld := by decide +kernel
  rw [fX3_keysHeld] at hf
  have h := hf
  refine xw_aload_n C dX3_keysHeld_0 rfl 0 rfl ?_
  refine xw_aload_n C dX3_keysHeld_1 rfl 0 rfl ?_
  refine xw_get C in3 0 rfl rfl 5 (by decide) m33 rfl rfl dX3_keysHeld_2 ?_
  obtain ⟨q5, eq5, h⟩ := px_b h
  refine xw_callVI (w' := w3 E o ad x) (u := []) (v := []) C (ok_X3_sizeOf (o := o) (ad := ad) (x := x) eq5) 1 gX3_keysHeld_X3_sizeOf rfl ⟨rfl, rfl⟩ (by decide +kernel) ⟨Nat.le_of_ble_eq_true rfl, Nat.le_of_ble_eq_true rfl⟩ 0 3 rfl rfl rfl (Nat.le_of_ble_eq_true rfl) ⟨Nat.zero_le _, Nat.zero_le _⟩ rfl xe0 xe0.symm dX3_keysHeld_5 ?_
  cases h
  rw [hZ]
  exact xw_iret C hr dX3_keysHeld_8
def fX3_depthOf_L16 : Nat → Int32 → Int32 → Ob → Option (Int32)
  | 0, _, _, _ => none
  | n + 1, v2, v3, x =>
  (if (64) ≤ v2 then
    some v2
  else
    (if v3 = (-1) then
      some v2
    else
      px_let (v2 + (1) : Int32) (fun b27 =>
      Option.bind (fX3_upOf v3 x) (fun q32 =>
      fX3_depthOf_L16 n b27 q32 x))))
def fX3_depthOf_J15 (v2 : Int32) (s0 : Int32) (x : Ob) : Option (Int32) :=
  fX3_depthOf_L16 FU v2 s0 x
def fX3_depthOf (p1 : Int32) (x : Ob) : Option (Int32) :=
  Option.bind (fX3_holds p1 x) (fun q4 =>
  (if q4 = 0 then
    fX3_depthOf_J15 (0) (-1) x
  else
    fX3_depthOf_J15 (0) p1 x))
abbrev rmX3_depthOf : Room := { frames := 2, cells := 0, slots := 0, locals := 42 }
set_option maxHeartbeats 4000000 in
set_option maxRecDepth 100000 in
theorem ok_X3_depthOf {l : Launch} {E : En} {o : Nat} {ad : (Nat → Nat)} {p1 : Int32} {x : Ob} {r : Int32} (hf : fX3_depthOf p1 x = some r) : CI l yX3_depthOf wsX3_depthOf (rmX3_depthOf) [.ref o, .int p1] E (w3 E o ad x) (w3 E o ad x) (r) := by
  refine xc_I (by decide) rfl (Nat.le_of_ble_eq_true rfl) [(0, .ref o), (1, .int p1)] rfl (fun p e s m below meth c A C hr => ?_)
  generalize ([.ref o, .int p1] : List Value).toArray = args at C ⊢
  obtain ⟨Z, hZ⟩ : ∃ Z, Z = ZI E (w3 E o ad x) (r) A below args s 0 0 := ⟨_, rfl⟩
  rw [← hZ]
  have hL16 : ∀ n : Nat, ∀ (v2 : Int32), ∀ (v3 : Int32), fX3_depthOf_L16 n v2 v3 x = some r → XW E p l e rmX3_depthOf s m args below meth c Z A 0 0 (w3 E o ad x) 16 4 [(0, .ref o), (2, .int v2), (3, .int v3)] [] := by
    intro n
    induction n with
    | zero =>
      intro v2 v3 h
      rw [fX3_depthOf_L16] at h
      cases h
    | succ n ih =>
      intro v2 v3 h
      rw [fX3_depthOf_L16] at h
      refine xw_iload_n C dX3_depthOf_16 rfl 1 rfl ?_
      refine xw_bipush C (64) dX3_depthOf_17 (by decide) ?_
      refine xw_icmp_ge C 39 dX3_depthOf_19 (by decide) (fun c19 => ?_) (fun c19 => ?_)
      · have h := px_t c19 h
        refine xw_iload_n C dX3_depthOf_39 rfl 1 rfl ?_
        cases h
        rw [hZ]
        exact xw_iret C hr dX3_depthOf_40
      · have h := px_f c19 h
        refine xw_iload_n C dX3_depthOf_22 rfl 2 rfl ?_
        refine xw_iconst C (-1) dX3_depthOf_23 (by decide) ?_
        refine xw_icmp_eq C 39 dX3_depthOf_24 (by decide) (fun c24 => ?_) (fun c24 => ?_)
        · have h := px_t c24 h
          refine xw_iload_n C dX3_depthOf_39 rfl 1 rfl ?_
          cases h
          rw [hZ]
          exact xw_iret C hr dX3_depthOf_40
        · have h := px_f c24 h
          refine px_n h (fun b27 eb27 h => ?_)
          refine xw_iinc (v := b27) C dX3_depthOf_27 1 rfl eb27 (by decide) (lv' := [(2, .int b27), (0, .ref o), (3, .int v3)]) rfl ?_
          refine xw_aload_n C dX3_depthOf_30 rfl 1 rfl ?_
          refine xw_iload_n C dX3_depthOf_31 rfl 2 rfl ?_
          obtain ⟨q32, eq32, h⟩ := px_b h
          refine xw_callVI (w' := w3 E o ad x) (u := []) (v := []) C (ok_X3_upOf (o := o) (ad := ad) (x := x) eq32) 1 gX3_depthOf_X3_upOf rfl ⟨rfl, rfl⟩ (by decide +kernel) ⟨Nat.le_of_ble_eq_true rfl, Nat.le_of_ble_eq_true rfl⟩ 0 3 rfl rfl rfl (Nat.le_of_ble_eq_true rfl) ⟨Nat.zero_le _, Nat.zero_le _⟩ rfl xe0 xe0.symm dX3_depthOf_32 ?_
          refine xw_istore_n C dX3_depthOf_35 rfl (by decide) (lv' := [(3, .int q32), (2, .int b27), (0, .ref o)]) rfl ?_
          refine xw_goto C 16 dX3_depthOf_36 (by decide) ?_
          refine xw_perm [2, 1, 0] rfl ?_
          exact ih _ _ h
  have hJ15 : ∀ (v2 : Int32), ∀ (s0 : Int32), fX3_depthOf_J15 v2 s0 x = some r → XW E p l e rmX3_depthOf s m args below meth c Z A 0 0 (w3 E o ad x) 15 4 [(0, .ref o), (2, .int v2)] [.int s0] := by
    intro v2 s0 h
    rw [fX3_depthOf_J15] at h
    refine xw_istore_n C dX3_depthOf_15 rfl (by decide) (lv' := [(3, .int s0), (0, .ref o), (2, .int v2)]) rfl ?_
    refine xw_perm [1, 2, 0] rfl ?_
    exact hL16 _ _ _ h
  rw [fX3_depthOf] at hf
  have h := hf
  refine xw_iconst C (0) dX3_depthOf_0 (by decide) ?_
  refine xw_istore_n C dX3_depthOf_1 rfl (by decide) (lv' := [(2, .int (0)), (0, .ref o), (1, .int p1)]) rfl ?_
  refine xw_aload_n C dX3_depthOf_2 rfl 1 rfl ?_
  refine xw_iload_n C dX3_depthOf_3 rfl 2 rfl ?_
  obtain ⟨q4, eq4, h⟩ := px_b h
  refine xw_callVI (w' := w3 E o ad x) (u := []) (v := []) C (ok_X3_holds (o := o) (ad := ad) (x := x) eq4) 1 gX3_depthOf_X3_holds rfl ⟨rfl, rfl⟩ (by decide +kernel) ⟨Nat.le_of_ble_eq_true rfl, Nat.le_of_ble_eq_true rfl⟩ 0 3 rfl rfl rfl (Nat.le_of_ble_eq_true rfl) ⟨Nat.zero_le _, Nat.zero_le _⟩ rfl xe0 xe0.symm dX3_depthOf_4 ?_
  refine xw_if_eq C 14 dX3_depthOf_7 (by decide) (fun c7 => ?_) (fun c7 => ?_)
  · have h := px_t c7 h
    refine xw_iconst C (-1) dX3_depthOf_14 (by decide) ?_
    refine xw_perm [1, 0] rfl ?_
    exact hJ15 _ _ h
  · have h := px_f c7 h
    refine xw_iload_n C dX3_depthOf_10 rfl 2 rfl ?_
    refine xw_goto C 15 dX3_depthOf_11 (by decide) ?_
    refine xw_perm [1, 0] rfl ?_
    exact hJ15 _ _ h
def fX3_greatestDepth_L4 : Nat → Int32 → Int32 → Ob → Option (Int32)
  | 0, _, _, _ => none
  | n + 1, v1, v2, x =>
  (if (64) ≤ v2 then
    some v1
  else
    Option.bind (fX3_depthOf v2 x) (fun q13 =>
    px_let ((if v1 < q13 then q13 else v1) : Int32) (fun b19 =>
    px_let (v2 + (1) : Int32) (fun b20 =>
    fX3_greatestDepth_L4 n b19 b20 x))))
def fX3_greatestDepth (x : Ob) : Option (Int32) :=
  fX3_greatestDepth_L4 FU (0) (0) x
abbrev rmX3_greatestDepth : Room := { frames := 3, cells := 0, slots := 0, locals := 65 }
set_option maxHeartbeats 4000000 in
set_option maxRecDepth 100000 in
theorem ok_X3_greatestDepth {l : Launch} {E : En} {o : Nat} {ad : (Nat → Nat)} {x : Ob} {r : Int32} (hf : fX3_greatestDepth x = some r) : CI l yX3_greatestDepth wsX3_greatestDepth (rmX3_greatestDepth) [.ref o] E (w3 E o ad x) (w3 E o ad x) (r) := by
  refine xc_I (by decide) rfl (Nat.le_of_ble_eq_true rfl) [(0, .ref o)] rfl (fun p e s m below meth c A C hr => ?_)
  generalize ([.ref o] : List Value).toArray = args at C ⊢
  obtain ⟨Z, hZ⟩ : ∃ Z, Z = ZI E (w3 E o ad x) (r) A below args s 0 0 := ⟨_, rfl⟩
  rw [← hZ]
  have hL4 : ∀ n : Nat, ∀ (v1 : Int32), ∀ (v2 : Int32), fX3_greatestDepth_L4 n v1 v2 x = some r → XW E p l e rmX3_greatestDepth s m args below meth c Z A 0 0 (w3 E o ad x) 4 3 [(0, .ref o), (1, .int v1), (2, .int v2)] [] := by
    intro n
    induction n with
    | zero =>
      intro v1 v2 h
      rw [fX3_greatestDepth_L4] at h
      cases h
    | succ n ih =>
      intro v1 v2 h
      rw [fX3_greatestDepth_L4] at h
      refine xw_iload_n C dX3_greatestDepth_4 rfl 2 rfl ?_
      refine xw_bipush C (64) dX3_greatestDepth_5 (by decide) ?_
      refine xw_icmp_ge C 26 dX3_greatestDepth_7 (by decide) (fun c7 => ?_) (fun c7 => ?_)
      · have h := px_t c7 h
        refine xw_iload_n C dX3_greatestDepth_26 rfl 1 rfl ?_
        cases h
        rw [hZ]
        exact xw_iret C hr dX3_greatestDepth_27
      · have h := px_f c7 h
        refine xw_iload_n C dX3_greatestDepth_10 rfl 1 rfl ?_
        refine xw_aload_n C dX3_greatestDepth_11 rfl 0 rfl ?_
        refine xw_iload_n C dX3_greatestDepth_12 rfl 2 rfl ?_
        obtain ⟨q13, eq13, h⟩ := px_b h
        refine xw_callVI (w' := w3 E o ad x) (u := []) (v := []) C (ok_X3_depthOf (o := o) (ad := ad) (x := x) eq13) 1 gX3_greatestDepth_X3_depthOf rfl ⟨rfl, rfl⟩ (by decide +kernel) ⟨Nat.le_of_ble_eq_true rfl, Nat.le_of_ble_eq_true rfl⟩ 0 3 rfl rfl rfl (Nat.le_of_ble_eq_true rfl) ⟨Nat.zero_le _, Nat.zero_le _⟩ rfl xe0 xe0.symm dX3_greatestDepth_13 ?_
        refine xw_max C (by decide +kernel) (by decide +kernel) (by decide +kernel) (by decide +kernel) (Nat.le_of_ble_eq_true rfl) (Nat.le_of_ble_eq_true rfl) ⟨Nat.zero_le _, Nat.zero_le _⟩ dX3_greatestDepth_16 ?_
        refine xw_topi (fun b19 eb19 => ?_)
        have h := px_v h b19 eb19
        refine xw_istore_n C dX3_greatestDepth_19 rfl (by decide) (lv' := [(1, .int b19), (0, .ref o), (2, .int v2)]) rfl ?_
        refine px_n h (fun b20 eb20 h => ?_)
        refine xw_iinc (v := b20) C dX3_greatestDepth_20 2 rfl eb20 (by decide) (lv' := [(2, .int b20), (1, .int b19), (0, .ref o)]) rfl ?_
        refine xw_goto C 4 dX3_greatestDepth_23 (by decide) ?_
        refine xw_perm [2, 1, 0] rfl ?_
        exact ih _ _ h
  rw [fX3_greatestDepth] at hf
  have h := hf
  refine xw_iconst C (0) dX3_greatestDepth_0 (by decide) ?_
  refine xw_istore_n C dX3_greatestDepth_1 rfl (by decide) (lv' := [(1, .int (0)), (0, .ref o)]) rfl ?_
  refine xw_iconst C (0) dX3_greatestDepth_2 (by decide) ?_
  refine xw_istore_n C dX3_greatestDepth_3 rfl (by decide) (lv' := [(2, .int (0)), (1, .int (0)), (0, .ref o)]) rfl ?_
  refine xw_perm [2, 1, 0] rfl ?_
  exact hL4 _ _ _ h
def fX3_potential_J32 (k4 : Int32 → Int32 → Ob → Option (Int32)) (v1 : Int32) (v2 : Int32) (x : Ob) : Option (Int32) :=
  px_let (v2 + (1) : Int32) (fun b32 =>
  k4 v1 b32 x)
def fX3_potential_L18 (k4 : Int32 → Int32 → Ob → Option (Int32)) : Nat → Int32 → Int32 → Int32 → Ob → Option (Int32)
  | 0, _, _, _, _ => none
  | n + 1, v1, v2, v3, x =>
  (if v3 ≤ 0 then
    fX3_potential_J32 (k4) v1 v2 x
  else
    px_let (v1 + (1) : Int32) (fun b22 =>
    px_let ((v3 / (2)) : Int32) (fun b28 =>
    fX3_potential_L18 k4 n b22 v2 b28 x)))
def fX3_potential_L4 : Nat → Int32 → Int32 → Ob → Option (Int32)
  | 0, _, _, _ => none
  | n + 1, v1, v2, x =>
  (if (64) ≤ v2 then
    some v1
  else
    Option.bind (fX3_sizeOf v2 x) (fun q12 =>
    px_let ((q12 / (2)) : Int32) (fun b17 =>
    fX3_potential_L18 (fX3_potential_L4 n) FU v1 v2 b17 x)))
def fX3_potential (x : Ob) : Option (Int32) :=
  fX3_potential_L4 FU (0) (0) x
abbrev rmX3_potential : Room := { frames := 1, cells := 0, slots := 0, locals := 21 }
set_option maxHeartbeats 4000000 in
set_option maxRecDepth 100000 in
theorem ok_X3_potential {l : Launch} {E : En} {o : Nat} {ad : (Nat → Nat)} {x : Ob} {r : Int32} (hf : fX3_potential x = some r) : CI l yX3_potential wsX3_potential (rmX3_potential) [.ref o] E (w3 E o ad x) (w3 E o ad x) (r) := by
  refine xc_I (by decide) rfl (Nat.le_of_ble_eq_true rfl) [(0, .ref o)] rfl (fun p e s m below meth c A C hr => ?_)
  generalize ([.ref o] : List Value).toArray = args at C ⊢
  obtain ⟨Z, hZ⟩ : ∃ Z, Z = ZI E (w3 E o ad x) (r) A below args s 0 0 := ⟨_, rfl⟩
  rw [← hZ]
  have hJ32 : ∀ (k4 : Int32 → Int32 → Ob → Option (Int32)), (∀ (v1 : Int32), ∀ (v2 : Int32), k4 v1 v2 x = some r → XW E p l e rmX3_potential s m args below meth c Z A 0 0 (w3 E o ad x) 4 4 [(0, .ref o), (1, .int v1), (2, .int v2)] []) → ∀ (v1 : Int32), ∀ (v2 : Int32), fX3_potential_J32 k4 v1 v2 x = some r → XW E p l e rmX3_potential s m args below meth c Z A 0 0 (w3 E o ad x) 32 4 [(0, .ref o), (1, .int v1), (2, .int v2)] [] := by
    intro k4 hk4 v1 v2 h
    rw [fX3_potential_J32] at h
    refine px_n h (fun b32 eb32 h => ?_)
    refine xw_iinc (v := b32) C dX3_potential_32 2 rfl eb32 (by decide) (lv' := [(2, .int b32), (0, .ref o), (1, .int v1)]) rfl ?_
    refine xw_goto C 4 dX3_potential_35 (by decide) ?_
    refine xw_perm [1, 2, 0] rfl ?_
    exact hk4 _ _ h
  have hL18 : ∀ (k4 : Int32 → Int32 → Ob → Option (Int32)), (∀ (v1 : Int32), ∀ (v2 : Int32), k4 v1 v2 x = some r → XW E p l e rmX3_potential s m args below meth c Z A 0 0 (w3 E o ad x) 4 4 [(0, .ref o), (1, .int v1), (2, .int v2)] []) → ∀ n : Nat, ∀ (v1 : Int32), ∀ (v2 : Int32), ∀ (v3 : Int32), fX3_potential_L18 k4 n v1 v2 v3 x = some r → XW E p l e rmX3_potential s m args below meth c Z A 0 0 (w3 E o ad x) 18 4 [(0, .ref o), (1, .int v1), (2, .int v2), (3, .int v3)] [] := by
    intro k4 hk4 n
    induction n with
    | zero =>
      intro v1 v2 v3 h
      rw [fX3_potential_L18] at h
      cases h
    | succ n ih =>
      intro v1 v2 v3 h
      rw [fX3_potential_L18] at h
      refine xw_iload_n C dX3_potential_18 rfl 3 rfl ?_
      refine xw_if_le C 32 dX3_potential_19 (by decide) (fun c19 => ?_) (fun c19 => ?_)
      · have h := px_t c19 h
        refine xw_perm [0, 1, 2] rfl ?_
        exact hJ32 _ hk4 _ _ h
      · have h := px_f c19 h
        refine px_n h (fun b22 eb22 h => ?_)
        refine xw_iinc (v := b22) C dX3_potential_22 1 rfl eb22 (by decide) (lv' := [(1, .int b22), (0, .ref o), (2, .int v2), (3, .int v3)]) rfl ?_
        refine xw_iload_n C dX3_potential_25 rfl 3 rfl ?_
        refine xw_iconst C (2) dX3_potential_26 (by decide) ?_
        refine xw_idiv C dX3_potential_27 (by decide) ?_
        refine xw_topi (fun b28 eb28 => ?_)
        have h := px_v h b28 eb28
        refine xw_istore_n C dX3_potential_28 rfl (by decide) (lv' := [(3, .int b28), (1, .int b22), (0, .ref o), (2, .int v2)]) rfl ?_
        refine xw_goto C 18 dX3_potential_29 (by decide) ?_
        refine xw_perm [2, 1, 3, 0] rfl ?_
        exact ih _ _ _ h
  have hL4 : ∀ n : Nat, ∀ (v1 : Int32), ∀ (v2 : Int32), fX3_potential_L4 n v1 v2 x = some r → XW E p l e rmX3_potential s m args below meth c Z A 0 0 (w3 E o ad x) 4 4 [(0, .ref o), (1, .int v1), (2, .int v2)] [] := by
    intro n
    induction n with
    | zero =>
      intro v1 v2 h
      rw [fX3_potential_L4] at h
      cases h
    | succ n ih =>
      intro v1 v2 h
      rw [fX3_potential_L4] at h
      refine xw_iload_n C dX3_potential_4 rfl 2 rfl ?_
      refine xw_bipush C (64) dX3_potential_5 (by decide) ?_
      refine xw_icmp_ge C 38 dX3_potential_7 (by decide) (fun c7 => ?_) (fun c7 => ?_)
      · have h := px_t c7 h
        refine xw_iload_n C dX3_potential_38 rfl 1 rfl ?_
        cases h
        rw [hZ]
        exact xw_iret C hr dX3_potential_39
      · have h := px_f c7 h
        refine xw_aload_n C dX3_potential_10 rfl 0 rfl ?_
        refine xw_iload_n C dX3_potential_11 rfl 2 rfl ?_
        obtain ⟨q12, eq12, h⟩ := px_b h
        refine xw_callVI (w' := w3 E o ad x) (u := []) (v := []) C (ok_X3_sizeOf (o := o) (ad := ad) (x := x) eq12) 1 gX3_potential_X3_sizeOf rfl ⟨rfl, rfl⟩ (by decide +kernel) ⟨Nat.le_of_ble_eq_true rfl, Nat.le_of_ble_eq_true rfl⟩ 0 3 rfl rfl rfl (Nat.le_of_ble_eq_true rfl) ⟨Nat.zero_le _, Nat.zero_le _⟩ rfl xe0 xe0.symm dX3_potential_12 ?_
        refine xw_iconst C (2) dX3_potential_15 (by decide) ?_
        refine xw_idiv C dX3_potential_16 (by decide) ?_
        refine xw_topi (fun b17 eb17 => ?_)
        have h := px_v h b17 eb17
        refine xw_istore_n C dX3_potential_17 rfl (by decide) (lv' := [(3, .int b17), (0, .ref o), (1, .int v1), (2, .int v2)]) rfl ?_
        refine xw_perm [1, 2, 3, 0] rfl ?_
        exact hL18 _ ih _ _ _ _ h
  rw [fX3_potential] at hf
  have h := hf
  refine xw_iconst C (0) dX3_potential_0 (by decide) ?_
  refine xw_istore_n C dX3_potential_1 rfl (by decide) (lv' := [(1, .int (0)), (0, .ref o)]) rfl ?_
  refine xw_iconst C (0) dX3_potential_2 (by decide) ?_
  refine xw_istore_n C dX3_potential_3 rfl (by decide) (lv' := [(2, .int (0)), (1, .int (0)), (0, .ref o)]) rfl ?_
  refine xw_perm [2, 1, 0] rfl ?_
  exact hL4 _ _ _ h
def fX3_lastOnWay_J36 (k7 : Int32 → Int32 → Int32 → Ob → Option (Int32)) (v1 : Int32) (v2 : Int32) (v3 : Int32) (s0 : Int32) (x : Ob) : Option (Int32) :=
  (if s0 = (-1) then
    some v2
  else
    px_let (v3 + (1) : Int32) (fun b49 =>
    k7 v1 s0 b49 x))
def fX3_lastOnWay_L7 : Nat → Int32 → Int32 → Int32 → Ob → Option (Int32)
  | 0, _, _, _, _ => none
  | n + 1, v1, v2, v3, x =>
  (if (64) ≤ v3 then
    some v2
  else
    (if v2 = v1 then
      some v2
    else
      (if v2 ≤ v1 then
        Option.bind (fX3_rightOf v2 x) (fun q33 =>
        fX3_lastOnWay_J36 (fX3_lastOnWay_L7 n) v1 v2 v3 q33 x)
      else
        Option.bind (fX3_leftOf v2 x) (fun q25 =>
        fX3_lastOnWay_J36 (fX3_lastOnWay_L7 n) v1 v2 v3 q25 x))))
def fX3_lastOnWay (p1 : Int32) (x : Ob) : Option (Int32) :=
  px_let ((x.1 5) : Int32) (fun b4 =>
  fX3_lastOnWay_L7 FU p1 b4 (0) x)
abbrev rmX3_lastOnWay : Room := { frames := 2, cells := 0, slots := 0, locals := 42 }
set_option maxHeartbeats 4000000 in
set_option maxRecDepth 100000 in
theorem ok_X3_lastOnWay {l : Launch} {E : En} {o : Nat} {ad : (Nat → Nat)} {p1 : Int32} {x : Ob} {r : Int32} (hf : fX3_lastOnWay p1 x = some r) : CI l yX3_lastOnWay wsX3_lastOnWay (rmX3_lastOnWay) [.ref o, .int p1] E (w3 E o ad x) (w3 E o ad x) (r) := by
  refine xc_I (by decide) rfl (Nat.le_of_ble_eq_true rfl) [(0, .ref o), (1, .int p1)] rfl (fun p e s m below meth c A C hr => ?_)
  generalize ([.ref o, .int p1] : List Value).toArray = args at C ⊢
  obtain ⟨Z, hZ⟩ : ∃ Z, Z = ZI E (w3 E o ad x) (r) A below args s 0 0 := ⟨_, rfl⟩
  rw [← hZ]
  have in3 : ∀ w ∈ wsX30, w ∈ wsX3_lastOnWay := by decide +kernel
  have m33 : Cond.fieldLink RX3 33 "TurningTrees$Shape" "root" "I" ∈ wsX3_lastOnWay := by decide +kernel
  have hJ36 : ∀ (k7 : Int32 → Int32 → Int32 → Ob → Option (Int32)), (∀ (v1 : Int32), ∀ (v2 : Int32), ∀ (v3 : Int32), k7 v1 v2 v3 x = some r → XW E p l e rmX3_lastOnWay s m args below meth c Z A 0 0 (w3 E o ad x) 7 5 [(0, .ref o), (1, .int v1), (2, .int v2), (3, .int v3)] []) → ∀ (v1 : Int32), ∀ (v2 : Int32), ∀ (v3 : Int32), ∀ (s0 : Int32), fX3_lastOnWay_J36 k7 v1 v2 v3 s0 x = some r → XW E p l e rmX3_lastOnWay s m args below meth c Z A 0 0 (w3 E o ad x) 36 5 [(0, .ref o), (1, .int v1), (2, .int v2), (3, .int v3)] [.int s0] := by
    intro k7 hk7 v1 v2 v3 s0 h
    rw [fX3_lastOnWay_J36] at h
    refine xw_istore C dX3_lastOnWay_36 (by decide) (lv' := [(4, .int s0), (0, .ref o), (1, .int v1), (2, .int v2), (3, .int v3)]) rfl ?_
    refine xw_iload C dX3_lastOnWay_38 0 rfl ?_
    refine xw_iconst C (-1) dX3_lastOnWay_40 (by decide) ?_
    refine xw_icmp_ne C 46 dX3_lastOnWay_41 (by decide) (fun c41 => ?_) (fun c41 => ?_)
    · have h := px_f c41 h
      refine xw_iload C dX3_lastOnWay_46 0 rfl ?_
      refine xw_istore_n C dX3_lastOnWay_48 rfl (by decide) (lv' := [(2, .int s0), (4, .int s0), (0, .ref o), (1, .int v1), (3, .int v3)]) rfl ?_
      refine px_n h (fun b49 eb49 h => ?_)
      refine xw_iinc (v := b49) C dX3_lastOnWay_49 4 rfl eb49 (by decide) (lv' := [(3, .int b49), (2, .int s0), (4, .int s0), (0, .ref o), (1, .int v1)]) rfl ?_
      refine xw_goto C 7 dX3_lastOnWay_52 (by decide) ?_
      refine xw_perm [3, 4, 1, 0] rfl ?_
      exact hk7 _ _ _ h
    · have h := px_t c41 h
      refine xw_iload_n C dX3_lastOnWay_44 rfl 3 rfl ?_
      cases h
      rw [hZ]
      exact xw_iret C hr dX3_lastOnWay_45
  have hL7 : ∀ n : Nat, ∀ (v1 : Int32), ∀ (v2 : Int32), ∀ (v3 : Int32), fX3_lastOnWay_L7 n v1 v2 v3 x = some r → XW E p l e rmX3_lastOnWay s m args below meth c Z A 0 0 (w3 E o ad x) 7 5 [(0, .ref o), (1, .int v1), (2, .int v2), (3, .int v3)] [] := by
    intro n
    induction n with
    | zero =>
      intro v1 v2 v3 h
      rw [fX3_lastOnWay_L7] at h
      cases h
    | succ n ih =>
      intro v1 v2 v3 h
      rw [fX3_lastOnWay_L7] at h
      refine xw_iload_n C dX3_lastOnWay_7 rfl 3 rfl ?_
      refine xw_bipush C (64) dX3_lastOnWay_8 (by decide) ?_
      refine xw_icmp_ge C 55 dX3_lastOnWay_10 (by decide) (fun c10 => ?_) (fun c10 => ?_)
      · have h := px_t c10 h
        refine xw_iload_n C dX3_lastOnWay_55 rfl 2 rfl ?_
        cases h
        rw [hZ]
        exact xw_iret C hr dX3_lastOnWay_56
      · have h := px_f c10 h
        refine xw_iload_n C dX3_lastOnWay_13 rfl 2 rfl ?_
        refine xw_iload_n C dX3_lastOnWay_14 rfl 1 rfl ?_
        refine xw_icmp_eq C 55 dX3_lastOnWay_15 (by decide) (fun c15 => ?_) (fun c15 => ?_)
        · have h := px_t c15 h
          refine xw_iload_n C dX3_lastOnWay_55 rfl 2 rfl ?_
          cases h
          rw [hZ]
          exact xw_iret C hr dX3_lastOnWay_56
        · have h := px_f c15 h
          refine xw_iload_n C dX3_lastOnWay_18 rfl 1 rfl ?_
          refine xw_iload_n C dX3_lastOnWay_19 rfl 2 rfl ?_
          refine xw_icmp_ge C 31 dX3_lastOnWay_20 (by decide) (fun c20 => ?_) (fun c20 => ?_)
          · have h := px_t c20 h
            refine xw_aload_n C dX3_lastOnWay_31 rfl 0 rfl ?_
            refine xw_iload_n C dX3_lastOnWay_32 rfl 2 rfl ?_
            obtain ⟨q33, eq33, h⟩ := px_b h
            refine xw_callVI (w' := w3 E o ad x) (u := []) (v := []) C (ok_X3_rightOf (o := o) (ad := ad) (x := x) eq33) 1 gX3_lastOnWay_X3_rightOf rfl ⟨rfl, rfl⟩ (by decide +kernel) ⟨Nat.le_of_ble_eq_true rfl, Nat.le_of_ble_eq_true rfl⟩ 0 3 rfl rfl rfl (Nat.le_of_ble_eq_true rfl) ⟨Nat.zero_le _, Nat.zero_le _⟩ rfl xe0 xe0.symm dX3_lastOnWay_33 ?_
            exact hJ36 _ ih _ _ _ _ h
          · have h := px_f c20 h
            refine xw_aload_n C dX3_lastOnWay_23 rfl 0 rfl ?_
            refine xw_iload_n C dX3_lastOnWay_24 rfl 2 rfl ?_
            obtain ⟨q25, eq25, h⟩ := px_b h
            refine xw_callVI (w' := w3 E o ad x) (u := []) (v := []) C (ok_X3_leftOf (o := o) (ad := ad) (x := x) eq25) 1 gX3_lastOnWay_X3_leftOf rfl ⟨rfl, rfl⟩ (by decide +kernel) ⟨Nat.le_of_ble_eq_true rfl, Nat.le_of_ble_eq_true rfl⟩ 0 3 rfl rfl rfl (Nat.le_of_ble_eq_true rfl) ⟨Nat.zero_le _, Nat.zero_le _⟩ rfl xe0 xe0.symm dX3_lastOnWay_25 ?_
            refine xw_goto C 36 dX3_lastOnWay_28 (by decide) ?_
            exact hJ36 _ ih _ _ _ _ h
  rw [fX3_lastOnWay] at hf
  have h := hf
  refine xw_aload_n C dX3_lastOnWay_0 rfl 0 rfl ?_
  refine xw_get C in3 0 rfl rfl 5 (by decide) m33 rfl rfl dX3_lastOnWay_1 ?_
  refine xw_topi (fun b4 eb4 => ?_)
  have h := px_v h b4 eb4
  refine xw_istore_n C dX3_lastOnWay_4 rfl (by decide) (lv' := [(2, .int b4), (0, .ref o), (1, .int p1)]) rfl ?_
  refine xw_iconst C (0) dX3_lastOnWay_5 (by decide) ?_
  refine xw_istore_n C dX3_lastOnWay_6 rfl (by decide) (lv' := [(3, .int (0)), (2, .int b4), (0, .ref o), (1, .int p1)]) rfl ?_
  refine xw_perm [2, 3, 1, 0] rfl ?_
  exact hL7 _ _ _ _ h
def fX3_leastUnder_L4 : Nat → Int32 → Int32 → Ob → Option (Int32)
  | 0, _, _, _ => none
  | n + 1, v2, v3, x =>
  (if (64) ≤ v3 then
    some v2
  else
    Option.bind (fX3_leftOf v2 x) (fun q12 =>
    (if q12 = (-1) then
      some v2
    else
      Option.bind (fX3_leftOf v2 x) (fun q21 =>
      px_let (v3 + (1) : Int32) (fun b25 =>
      fX3_leastUnder_L4 n q21 b25 x)))))
def fX3_leastUnder (p1 : Int32) (x : Ob) : Option (Int32) :=
  fX3_leastUnder_L4 FU p1 (0) x
abbrev rmX3_leastUnder : Room := { frames := 2, cells := 0, slots := 0, locals := 42 }
set_option maxHeartbeats 4000000 in
set_option maxRecDepth 100000 in
theorem ok_X3_leastUnder {l : Launch} {E : En} {o : Nat} {ad : (Nat → Nat)} {p1 : Int32} {x : Ob} {r : Int32} (hf : fX3_leastUnder p1 x = some r) : CI l yX3_leastUnder wsX3_leastUnder (rmX3_leastUnder) [.ref o, .int p1] E (w3 E o ad x) (w3 E o ad x) (r) := by
  refine xc_I (by decide) rfl (Nat.le_of_ble_eq_true rfl) [(0, .ref o), (1, .int p1)] rfl (fun p e s m below meth c A C hr => ?_)
  generalize ([.ref o, .int p1] : List Value).toArray = args at C ⊢
  obtain ⟨Z, hZ⟩ : ∃ Z, Z = ZI E (w3 E o ad x) (r) A below args s 0 0 := ⟨_, rfl⟩
  rw [← hZ]
  have hL4 : ∀ n : Nat, ∀ (v2 : Int32), ∀ (v3 : Int32), fX3_leastUnder_L4 n v2 v3 x = some r → XW E p l e rmX3_leastUnder s m args below meth c Z A 0 0 (w3 E o ad x) 4 4 [(0, .ref o), (2, .int v2), (3, .int v3)] [] := by
    intro n
    induction n with
    | zero =>
      intro v2 v3 h
      rw [fX3_leastUnder_L4] at h
      cases h
    | succ n ih =>
      intro v2 v3 h
      rw [fX3_leastUnder_L4] at h
      refine xw_iload_n C dX3_leastUnder_4 rfl 2 rfl ?_
      refine xw_bipush C (64) dX3_leastUnder_5 (by decide) ?_
      refine xw_icmp_ge C 31 dX3_leastUnder_7 (by decide) (fun c7 => ?_) (fun c7 => ?_)
      · have h := px_t c7 h
        refine xw_iload_n C dX3_leastUnder_31 rfl 1 rfl ?_
        cases h
        rw [hZ]
        exact xw_iret C hr dX3_leastUnder_32
      · have h := px_f c7 h
        refine xw_aload_n C dX3_leastUnder_10 rfl 0 rfl ?_
        refine xw_iload_n C dX3_leastUnder_11 rfl 1 rfl ?_
        obtain ⟨q12, eq12, h⟩ := px_b h
        refine xw_callVI (w' := w3 E o ad x) (u := []) (v := []) C (ok_X3_leftOf (o := o) (ad := ad) (x := x) eq12) 1 gX3_leastUnder_X3_leftOf rfl ⟨rfl, rfl⟩ (by decide +kernel) ⟨Nat.le_of_ble_eq_true rfl, Nat.le_of_ble_eq_true rfl⟩ 0 3 rfl rfl rfl (Nat.le_of_ble_eq_true rfl) ⟨Nat.zero_le _, Nat.zero_le _⟩ rfl xe0 xe0.symm dX3_leastUnder_12 ?_
        refine xw_iconst C (-1) dX3_leastUnder_15 (by decide) ?_
        refine xw_icmp_eq C 31 dX3_leastUnder_16 (by decide) (fun c16 => ?_) (fun c16 => ?_)
        · have h := px_t c16 h
          refine xw_iload_n C dX3_leastUnder_31 rfl 1 rfl ?_
          cases h
          rw [hZ]
          exact xw_iret C hr dX3_leastUnder_32
        · have h := px_f c16 h
          refine xw_aload_n C dX3_leastUnder_19 rfl 0 rfl ?_
          refine xw_iload_n C dX3_leastUnder_20 rfl 1 rfl ?_
          obtain ⟨q21, eq21, h⟩ := px_b h
          refine xw_callVI (w' := w3 E o ad x) (u := []) (v := []) C (ok_X3_leftOf (o := o) (ad := ad) (x := x) eq21) 1 gX3_leastUnder_X3_leftOf rfl ⟨rfl, rfl⟩ (by decide +kernel) ⟨Nat.le_of_ble_eq_true rfl, Nat.le_of_ble_eq_true rfl⟩ 0 3 rfl rfl rfl (Nat.le_of_ble_eq_true rfl) ⟨Nat.zero_le _, Nat.zero_le _⟩ rfl xe0 xe0.symm dX3_leastUnder_21 ?_
          refine xw_istore_n C dX3_leastUnder_24 rfl (by decide) (lv' := [(2, .int q21), (0, .ref o), (3, .int v3)]) rfl ?_
          refine px_n h (fun b25 eb25 h => ?_)
          refine xw_iinc (v := b25) C dX3_leastUnder_25 2 rfl eb25 (by decide) (lv' := [(3, .int b25), (2, .int q21), (0, .ref o)]) rfl ?_
          refine xw_goto C 4 dX3_leastUnder_28 (by decide) ?_
          refine xw_perm [2, 1, 0] rfl ?_
          exact ih _ _ h
  rw [fX3_leastUnder] at hf
  have h := hf
  refine xw_iload_n C dX3_leastUnder_0 rfl 1 rfl ?_
  refine xw_istore_n C dX3_leastUnder_1 rfl (by decide) (lv' := [(2, .int p1), (0, .ref o), (1, .int p1)]) rfl ?_
  refine xw_iconst C (0) dX3_leastUnder_2 (by decide) ?_
  refine xw_istore_n C dX3_leastUnder_3 rfl (by decide) (lv' := [(3, .int (0)), (2, .int p1), (0, .ref o), (1, .int p1)]) rfl ?_
  refine xw_perm [2, 1, 0] rfl ?_
  exact hL4 _ _ _ h
def fX3_greatestUnder_L4 : Nat → Int32 → Int32 → Ob → Option (Int32)
  | 0, _, _, _ => none
  | n + 1, v2, v3, x =>
  (if (64) ≤ v3 then
    some v2
  else
    Option.bind (fX3_rightOf v2 x) (fun q12 =>
    (if q12 = (-1) then
      some v2
    else
      Option.bind (fX3_rightOf v2 x) (fun q21 =>
      px_let (v3 + (1) : Int32) (fun b25 =>
      fX3_greatestUnder_L4 n q21 b25 x)))))
def fX3_greatestUnder (p1 : Int32) (x : Ob) : Option (Int32) :=
  fX3_greatestUnder_L4 FU p1 (0) x
abbrev rmX3_greatestUnder : Room := { frames := 2, cells := 0, slots := 0, locals := 42 }
set_option maxHeartbeats 4000000 in
set_option maxRecDepth 100000 in
theorem ok_X3_greatestUnder {l : Launch} {E : En} {o : Nat} {ad : (Nat → Nat)} {p1 : Int32} {x : Ob} {r : Int32} (hf : fX3_greatestUnder p1 x = some r) : CI l yX3_greatestUnder wsX3_greatestUnder (rmX3_greatestUnder) [.ref o, .int p1] E (w3 E o ad x) (w3 E o ad x) (r) := by
  refine xc_I (by decide) rfl (Nat.le_of_ble_eq_true rfl) [(0, .ref o), (1, .int p1)] rfl (fun p e s m below meth c A C hr => ?_)
  generalize ([.ref o, .int p1] : List Value).toArray = args at C ⊢
  obtain ⟨Z, hZ⟩ : ∃ Z, Z = ZI E (w3 E o ad x) (r) A below args s 0 0 := ⟨_, rfl⟩
  rw [← hZ]
  have hL4 : ∀ n : Nat, ∀ (v2 : Int32), ∀ (v3 : Int32), fX3_greatestUnder_L4 n v2 v3 x = some r → XW E p l e rmX3_greatestUnder s m args below meth c Z A 0 0 (w3 E o ad x) 4 4 [(0, .ref o), (2, .int v2), (3, .int v3)] [] := by
    intro n
    induction n with
    | zero =>
      intro v2 v3 h
      rw [fX3_greatestUnder_L4] at h
      cases h
    | succ n ih =>
      intro v2 v3 h
      rw [fX3_greatestUnder_L4] at h
      refine xw_iload_n C dX3_greatestUnder_4 rfl 2 rfl ?_
      refine xw_bipush C (64) dX3_greatestUnder_5 (by decide) ?_
      refine xw_icmp_ge C 31 dX3_greatestUnder_7 (by decide) (fun c7 => ?_) (fun c7 => ?_)
      · have h := px_t c7 h
        refine xw_iload_n C dX3_greatestUnder_31 rfl 1 rfl ?_
        cases h
        rw [hZ]
        exact xw_iret C hr dX3_greatestUnder_32
      · have h := px_f c7 h
        refine xw_aload_n C dX3_greatestUnder_10 rfl 0 rfl ?_
        refine xw_iload_n C dX3_greatestUnder_11 rfl 1 rfl ?_
        obtain ⟨q12, eq12, h⟩ := px_b h
        refine xw_callVI (w' := w3 E o ad x) (u := []) (v := []) C (ok_X3_rightOf (o := o) (ad := ad) (x := x) eq12) 1 gX3_greatestUnder_X3_rightOf rfl ⟨rfl, rfl⟩ (by decide +kernel) ⟨Nat.le_of_ble_eq_true rfl, Nat.le_of_ble_eq_true rfl⟩ 0 3 rfl rfl rfl (Nat.le_of_ble_eq_true rfl) ⟨Nat.zero_le _, Nat.zero_le _⟩ rfl xe0 xe0.symm dX3_greatestUnder_12 ?_
        refine xw_iconst C (-1) dX3_greatestUnder_15 (by decide) ?_
        refine xw_icmp_eq C 31 dX3_greatestUnder_16 (by decide) (fun c16 => ?_) (fun c16 => ?_)
        · have h := px_t c16 h
          refine xw_iload_n C dX3_greatestUnder_31 rfl 1 rfl ?_
          cases h
          rw [hZ]
          exact xw_iret C hr dX3_greatestUnder_32
        · have h := px_f c16 h
          refine xw_aload_n C dX3_greatestUnder_19 rfl 0 rfl ?_
          refine xw_iload_n C dX3_greatestUnder_20 rfl 1 rfl ?_
          obtain ⟨q21, eq21, h⟩ := px_b h
          refine xw_callVI (w' := w3 E o ad x) (u := []) (v := []) C (ok_X3_rightOf (o := o) (ad := ad) (x := x) eq21) 1 gX3_greatestUnder_X3_rightOf rfl ⟨rfl, rfl⟩ (by decide +kernel) ⟨Nat.le_of_ble_eq_true rfl, Nat.le_of_ble_eq_true rfl⟩ 0 3 rfl rfl rfl (Nat.le_of_ble_eq_true rfl) ⟨Nat.zero_le _, Nat.zero_le _⟩ rfl xe0 xe0.symm dX3_greatestUnder_21 ?_
          refine xw_istore_n C dX3_greatestUnder_24 rfl (by decide) (lv' := [(2, .int q21), (0, .ref o), (3, .int v3)]) rfl ?_
          refine px_n h (fun b25 eb25 h => ?_)
          refine xw_iinc (v := b25) C dX3_greatestUnder_25 2 rfl eb25 (by decide) (lv' := [(3, .int b25), (2, .int q21), (0, .ref o)]) rfl ?_
          refine xw_goto C 4 dX3_greatestUnder_28 (by decide) ?_
          refine xw_perm [2, 1, 0] rfl ?_
          exact ih _ _ h
  rw [fX3_greatestUnder] at hf
  have h := hf
  refine xw_iload_n C dX3_greatestUnder_0 rfl 1 rfl ?_
  refine xw_istore_n C dX3_greatestUnder_1 rfl (by decide) (lv' := [(2, .int p1), (0, .ref o), (1, .int p1)]) rfl ?_
  refine xw_iconst C (0) dX3_greatestUnder_2 (by decide) ?_
  refine xw_istore_n C dX3_greatestUnder_3 rfl (by decide) (lv' := [(3, .int (0)), (2, .int p1), (0, .ref o), (1, .int p1)]) rfl ?_
  refine xw_perm [2, 1, 0] rfl ?_
  exact hL4 _ _ _ h
def fX3_isBelow (x : Ob) (x1 : Ob) : Option (Int32) :=
  (if (x.1 5) = (-1) then
    some (1)
  else
    (if (x1.1 5) = (-1) then
      some (1)
    else
      Option.bind (fX3_greatestUnder (x.1 5) x) (fun q23 =>
      Option.bind (fX3_leastUnder (x1.1 5) x1) (fun q31 =>
      (if q31 ≤ q23 then
        some (0)
      else
        some (1))))))
abbrev rmX3_isBelow : Room := { frames := 3, cells := 0, slots := 0, locals := 65 }
set_option maxHeartbeats 4000000 in
set_option maxRecDepth 100000 in
theorem ok_X3_isBelow {l : Launch} {E : En} {o : Nat} {ad : (Nat → Nat)} {o1 : Nat} {ad1 : (Nat → Nat)} {x : Ob} {x1 : Ob} {r : Int32} (hf : fX3_isBelow x x1 = some r) : CI l yX3_isBelow wsX3_isBelow (rmX3_isBelow) [.ref o, .ref o1] E (w3 E o ad x ++ w3 E o1 ad1 x1) (w3 E o ad x ++ w3 E o1 ad1 x1) (r) := by
  refine xc_I (by decide) rfl (Nat.le_of_ble_eq_true rfl) [(0, .ref o), (1, .ref o1)] rfl (fun p e s m below meth c A C hr => ?_)
  generalize ([.ref o, .ref o1] : List Value).toArray = args at C ⊢
  obtain ⟨Z, hZ⟩ : ∃ Z, Z = ZI E (w3 E o ad x ++ w3 E o1 ad1 x1) (r) A below args s 0 0 := ⟨_, rfl⟩
  rw [← hZ]
  have in3 : ∀ w ∈ wsX30, w ∈ wsX3_isBelow := by decide +kernel
  have m33 : Cond.fieldLink RX3 33 "TurningTrees$Shape" "root" "I" ∈ wsX3_isBelow := by decide +kernel
  rw [fX3_isBelow] at hf
  have h := hf
  refine xw_aload_n C dX3_isBelow_0 rfl 0 rfl ?_
  refine xw_get C in3 0 rfl rfl 5 (by decide) m33 rfl rfl dX3_isBelow_1 ?_
  refine xw_iconst C (-1) dX3_isBelow_4 (by decide) ?_
  refine xw_icmp_eq C 16 dX3_isBelow_5 (by decide) (fun c5 => ?_) (fun c5 => ?_)
  · have h := px_t c5 h
    refine xw_iconst C (1) dX3_isBelow_16 (by decide) ?_
    cases h
    rw [hZ]
    exact xw_zret C hr (Or.inr rfl) dX3_isBelow_17
  · have h := px_f c5 h
    refine xw_aload_n C dX3_isBelow_8 rfl 1 rfl ?_
    refine xw_get C in3 6 rfl rfl 5 (by decide) m33 rfl rfl dX3_isBelow_9 ?_
    refine xw_iconst C (-1) dX3_isBelow_12 (by decide) ?_
    refine xw_icmp_ne C 18 dX3_isBelow_13 (by decide) (fun c13 => ?_) (fun c13 => ?_)
    · have h := px_f c13 h
      refine xw_aload_n C dX3_isBelow_18 rfl 0 rfl ?_
      refine xw_aload_n C dX3_isBelow_19 rfl 0 rfl ?_
      refine xw_get C in3 0 rfl rfl 5 (by decide) m33 rfl rfl dX3_isBelow_20 ?_
      obtain ⟨q23, eq23, h⟩ := px_b h
      refine xw_callVI (w' := w3 E o ad x ++ w3 E o1 ad1 x1) (u := (w3 E o ad x ++ w3 E o1 ad1 x1).take 0) (v := (w3 E o ad x ++ w3 E o1 ad1 x1).drop 6) C (ok_X3_greatestUnder (o := o) (ad := ad) (x := x) eq23) 1 gX3_isBelow_X3_greatestUnder rfl ⟨rfl, rfl⟩ (by decide +kernel) ⟨Nat.le_of_ble_eq_true rfl, Nat.le_of_ble_eq_true rfl⟩ 0 3 rfl rfl rfl (Nat.le_of_ble_eq_true rfl) ⟨Nat.zero_le _, Nat.zero_le _⟩ rfl rfl (by rfl) dX3_isBelow_23 ?_
      refine xw_aload_n C dX3_isBelow_26 rfl 1 rfl ?_
      refine xw_aload_n C dX3_isBelow_27 rfl 1 rfl ?_
      refine xw_get C in3 6 rfl rfl 5 (by decide) m33 rfl rfl dX3_isBelow_28 ?_
      obtain ⟨q31, eq31, h⟩ := px_b h
      refine xw_callVI (w' := w3 E o ad x ++ w3 E o1 ad1 x1) (u := (w3 E o ad x ++ w3 E o1 ad1 x1).take 6) (v := (w3 E o ad x ++ w3 E o1 ad1 x1).drop 12) C (ok_X3_leastUnder (o := o1) (ad := ad1) (x := x1) eq31) 1 gX3_isBelow_X3_leastUnder rfl ⟨rfl, rfl⟩ (by decide +kernel) ⟨Nat.le_of_ble_eq_true rfl, Nat.le_of_ble_eq_true rfl⟩ 0 3 rfl rfl rfl (Nat.le_of_ble_eq_true rfl) ⟨Nat.zero_le _, Nat.zero_le _⟩ rfl rfl (by rfl) dX3_isBelow_31 ?_
      refine xw_icmp_ge C 41 dX3_isBelow_34 (by decide) (fun c34 => ?_) (fun c34 => ?_)
      · have h := px_t c34 h
        refine xw_iconst C (0) dX3_isBelow_41 (by decide) ?_
        cases h
        rw [hZ]
        exact xw_zret C hr (Or.inl rfl) dX3_isBelow_42
      · have h := px_f c34 h
        refine xw_iconst C (1) dX3_isBelow_37 (by decide) ?_
        refine xw_goto C 42 dX3_isBelow_38 (by decide) ?_
        cases h
        rw [hZ]
        exact xw_zret C hr (Or.inr rfl) dX3_isBelow_42
    · have h := px_t c13 h
      refine xw_iconst C (1) dX3_isBelow_16 (by decide) ?_
      cases h
      rw [hZ]
      exact xw_zret C hr (Or.inr rfl) dX3_isBelow_17
def fX3_hang (p1 : Int32) (p2 : Int32) (x : Ob) : Option (Ob) :=
  Option.bind (fX5_put 64 p1 p2 (x.2 2)) (fun q6 =>
  px_let (ob_f x 2 q6) (fun x_6 =>
  (if p2 = (-1) then
    px_let (ob_i x_6 5 p1) (fun x_16 =>
    some x_16)
  else
    (if p2 ≤ p1 then
      Option.bind (fX5_put 64 p2 p1 (x_6.2 1)) (fun q45 =>
      px_let (ob_f x_6 1 q45) (fun x_45 =>
      some x_45))
    else
      Option.bind (fX5_put 64 p2 p1 (x_6.2 0)) (fun q33 =>
      px_let (ob_f x_6 0 q33) (fun x_33 =>
      some x_33))))))
abbrev rmX3_hang : Room := { frames := 1, cells := 0, slots := 0, locals := 22 }
set_option maxHeartbeats 4000000 in
set_option maxRecDepth 100000 in
theorem ok_X3_hang {l : Launch} {E : En} {o : Nat} {ad : (Nat → Nat)} {p1 : Int32} {p2 : Int32} {x : Ob} {r : Ob} (hf : fX3_hang p1 p2 x = some r) : CV l yX3_hang wsX3_hang (rmX3_hang) [.ref o, .int p1, .int p2] E (w3 E o ad x) (w3 E o ad r) := by
  refine xc_V (by decide) rfl (Nat.le_of_ble_eq_true rfl) [(0, .ref o), (1, .int p1), (2, .int p2)] rfl (fun p e s m below meth c A C hr => ?_)
  generalize ([.ref o, .int p1, .int p2] : List Value).toArray = args at C ⊢
  obtain ⟨Z, hZ⟩ : ∃ Z, Z = ZV E (w3 E o ad r) A below args s 0 0 := ⟨_, rfl⟩
  rw [← hZ]
  have in3 : ∀ w ∈ wsX30, w ∈ wsX3_hang := by decide +kernel
  have m9 : Cond.fieldLink RX3 9 "TurningTrees$Shape" "left" "[I" ∈ wsX3_hang := by decide +kernel
  have m15 : Cond.fieldLink RX3 15 "TurningTrees$Shape" "right" "[I" ∈ wsX3_hang := by decide +kernel
  have m18 : Cond.fieldLink RX3 18 "TurningTrees$Shape" "up" "[I" ∈ wsX3_hang := by decide +kernel
  have m33 : Cond.fieldLink RX3 33 "TurningTrees$Shape" "root" "I" ∈ wsX3_hang := by decide +kernel
  rw [fX3_hang] at hf
  have h := hf
  refine xw_aload_n C dX3_hang_0 rfl 0 rfl ?_
  refine xw_get C in3 0 rfl rfl 2 (by decide) m18 rfl rfl dX3_hang_1 ?_
  refine xw_iload_n C dX3_hang_4 rfl 1 rfl ?_
  refine xw_iload_n C dX3_hang_5 rfl 2 rfl ?_
  obtain ⟨q6, eq6, h⟩ := px_b h
  refine px_n h (fun x_6 ex_6 h => ?_)
  refine xw_callNV (w' := w3 E o ad x_6) (u := (w3 E o ad x).take 3) (v := (w3 E o ad x).drop 4) C (ok_X5_put (a := (ad 2)) (nn := 64) (f := (x.2 2)) eq6) 3 gX3_hang_X5_put_n76 rfl ⟨rfl, rfl⟩ (by decide +kernel) (by decide +kernel) (by decide +kernel) (by decide +kernel) ⟨Nat.le_of_ble_eq_true rfl, Nat.le_of_ble_eq_true rfl⟩ rfl (Nat.le_of_ble_eq_true rfl) ⟨Nat.zero_le _, Nat.zero_le _⟩ rfl rfl (by rw [ex_6]; rfl) dX3_hang_6 ?_
  refine xw_iload_n C dX3_hang_9 rfl 2 rfl ?_
  refine xw_iconst C (-1) dX3_hang_10 (by decide) ?_
  refine xw_icmp_ne C 22 dX3_hang_11 (by decide) (fun c11 => ?_) (fun c11 => ?_)
  · have h := px_f c11 h
    refine xw_iload_n C dX3_hang_22 rfl 1 rfl ?_
    refine xw_iload_n C dX3_hang_23 rfl 2 rfl ?_
    refine xw_icmp_ge C 39 dX3_hang_24 (by decide) (fun c24 => ?_) (fun c24 => ?_)
    · have h := px_t c24 h
      refine xw_aload_n C dX3_hang_39 rfl 0 rfl ?_
      refine xw_get C in3 0 rfl rfl 1 (by decide) m15 rfl rfl dX3_hang_40 ?_
      refine xw_iload_n C dX3_hang_43 rfl 2 rfl ?_
      refine xw_iload_n C dX3_hang_44 rfl 1 rfl ?_
      obtain ⟨q45, eq45, h⟩ := px_b h
      refine px_n h (fun x_45 ex_45 h => ?_)
      refine xw_callNV (w' := w3 E o ad x_45) (u := (w3 E o ad x_6).take 2) (v := (w3 E o ad x_6).drop 3) C (ok_X5_put (a := (ad 1)) (nn := 64) (f := (x_6.2 1)) eq45) 3 gX3_hang_X5_put_n76 rfl ⟨rfl, rfl⟩ (by decide +kernel) (by decide +kernel) (by decide +kernel) (by decide +kernel) ⟨Nat.le_of_ble_eq_true rfl, Nat.le_of_ble_eq_true rfl⟩ rfl (Nat.le_of_ble_eq_true rfl) ⟨Nat.zero_le _, Nat.zero_le _⟩ rfl rfl (by rw [ex_45]; rfl) dX3_hang_45 ?_
      cases h
      rw [hZ]
      exact xw_vret C hr dX3_hang_48
    · have h := px_f c24 h
      refine xw_aload_n C dX3_hang_27 rfl 0 rfl ?_
      refine xw_get C in3 0 rfl rfl 0 (by decide) m9 rfl rfl dX3_hang_28 ?_
      refine xw_iload_n C dX3_hang_31 rfl 2 rfl ?_
      refine xw_iload_n C dX3_hang_32 rfl 1 rfl ?_
      obtain ⟨q33, eq33, h⟩ := px_b h
      refine px_n h (fun x_33 ex_33 h => ?_)
      refine xw_callNV (w' := w3 E o ad x_33) (u := (w3 E o ad x_6).take 1) (v := (w3 E o ad x_6).drop 2) C (ok_X5_put (a := (ad 0)) (nn := 64) (f := (x_6.2 0)) eq33) 3 gX3_hang_X5_put_n76 rfl ⟨rfl, rfl⟩ (by decide +kernel) (by decide +kernel) (by decide +kernel) (by decide +kernel) ⟨Nat.le_of_ble_eq_true rfl, Nat.le_of_ble_eq_true rfl⟩ rfl (Nat.le_of_ble_eq_true rfl) ⟨Nat.zero_le _, Nat.zero_le _⟩ rfl rfl (by rw [ex_33]; rfl) dX3_hang_33 ?_
      refine xw_goto C 48 dX3_hang_36 (by decide) ?_
      cases h
      rw [hZ]
      exact xw_vret C hr dX3_hang_48
  · have h := px_t c11 h
    refine xw_aload_n C dX3_hang_14 rfl 0 rfl ?_
    refine xw_iload_n C dX3_hang_15 rfl 1 rfl ?_
    refine px_n h (fun x_16 ex_16 h => ?_)
    refine xw_put (w' := w3 E o ad x_16) C in3 tyX3 tyX3_ok nmX3 0 rfl rfl 5 (by decide) m33 rfl rfl rfl (Nat.le_of_ble_eq_true rfl) (by rw [ex_16]; rfl) dX3_hang_16 ?_
    refine xw_goto C 48 dX3_hang_19 (by decide) ?_
    cases h
    rw [hZ]
    exact xw_vret C hr dX3_hang_48
def fX3_hangLeft (p1 : Int32) (p2 : Int32) (x : Ob) : Option (Ob) :=
  Option.bind (fX5_put 64 p2 p1 (x.2 0)) (fun q6 =>
  px_let (ob_f x 0 q6) (fun x_6 =>
  Option.bind (fX5_put 64 p1 p2 (x_6.2 2)) (fun q15 =>
  px_let (ob_f x_6 2 q15) (fun x_15 =>
  some x_15))))
abbrev rmX3_hangLeft : Room := { frames := 1, cells := 0, slots := 0, locals := 22 }
set_option maxHeartbeats 4000000 in
set_option maxRecDepth 100000 in
theorem ok_X3_hangLeft {l : Launch} {E : En} {o : Nat} {ad : (Nat → Nat)} {p1 : Int32} {p2 : Int32} {x : Ob} {r : Ob} (hf : fX3_hangLeft p1 p2 x = some r) : CV l yX3_hangLeft wsX3_hangLeft (rmX3_hangLeft) [.ref o, .int p1, .int p2] E (w3 E o ad x) (w3 E o ad r) := by
  refine xc_V (by decide) rfl (Nat.le_of_ble_eq_true rfl) [(0, .ref o), (1, .int p1), (2, .int p2)] rfl (fun p e s m below meth c A C hr => ?_)
  generalize ([.ref o, .int p1, .int p2] : List Value).toArray = args at C ⊢
  obtain ⟨Z, hZ⟩ : ∃ Z, Z = ZV E (w3 E o ad r) A below args s 0 0 := ⟨_, rfl⟩
  rw [← hZ]
  have in3 : ∀ w ∈ wsX30, w ∈ wsX3_hangLeft := by decide +kernel
  have m9 : Cond.fieldLink RX3 9 "TurningTrees$Shape" "left" "[I" ∈ wsX3_hangLeft := by decide +kernel
  have m18 : Cond.fieldLink RX3 18 "TurningTrees$Shape" "up" "[I" ∈ wsX3_hangLeft := by decide +kernel
  rw [fX3_hangLeft] at hf
  have h := hf
  refine xw_aload_n C dX3_hangLeft_0 rfl 0 rfl ?_
  refine xw_get C in3 0 rfl rfl 0 (by decide) m9 rfl rfl dX3_hangLeft_1 ?_
  refine xw_iload_n C dX3_hangLeft_4 rfl 2 rfl ?_
  refine xw_iload_n C dX3_hangLeft_5 rfl 1 rfl ?_
  obtain ⟨q6, eq6, h⟩ := px_b h
  refine px_n h (fun x_6 ex_6 h => ?_)
  refine xw_callNV (w' := w3 E o ad x_6) (u := (w3 E o ad x).take 1) (v := (w3 E o ad x).drop 2) C (ok_X5_put (a := (ad 0)) (nn := 64) (f := (x.2 0)) eq6) 3 gX3_hangLeft_X5_put_n76 rfl ⟨rfl, rfl⟩ (by decide +kernel) (by decide +kernel) (by decide +kernel) (by decide +kernel) ⟨Nat.le_of_ble_eq_true rfl, Nat.le_of_ble_eq_true rfl⟩ rfl (Nat.le_of_ble_eq_true rfl) ⟨Nat.zero_le _, Nat.zero_le _⟩ rfl rfl (by rw [ex_6]; rfl) dX3_hangLeft_6 ?_
  refine xw_aload_n C dX3_hangLeft_9 rfl 0 rfl ?_
  refine xw_get C in3 0 rfl rfl 2 (by decide) m18 rfl rfl dX3_hangLeft_10 ?_
  refine xw_iload_n C dX3_hangLeft_13 rfl 1 rfl ?_
  refine xw_iload_n C dX3_hangLeft_14 rfl 2 rfl ?_
  obtain ⟨q15, eq15, h⟩ := px_b h
  refine px_n h (fun x_15 ex_15 h => ?_)
  refine xw_callNV (w' := w3 E o ad x_15) (u := (w3 E o ad x_6).take 3) (v := (w3 E o ad x_6).drop 4) C (ok_X5_put (a := (ad 2)) (nn := 64) (f := (x_6.2 2)) eq15) 3 gX3_hangLeft_X5_put_n76 rfl ⟨rfl, rfl⟩ (by decide +kernel) (by decide +kernel) (by decide +kernel) (by decide +kernel) ⟨Nat.le_of_ble_eq_true rfl, Nat.le_of_ble_eq_true rfl⟩ rfl (Nat.le_of_ble_eq_true rfl) ⟨Nat.zero_le _, Nat.zero_le _⟩ rfl rfl (by rw [ex_15]; rfl) dX3_hangLeft_15 ?_
  cases h
  rw [hZ]
  exact xw_vret C hr dX3_hangLeft_18
def fX3_hangRight (p1 : Int32) (p2 : Int32) (x : Ob) : Option (Ob) :=
  Option.bind (fX5_put 64 p2 p1 (x.2 1)) (fun q6 =>
  px_let (ob_f x 1 q6) (fun x_6 =>
  Option.bind (fX5_put 64 p1 p2 (x_6.2 2)) (fun q15 =>
  px_let (ob_f x_6 2 q15) (fun x_15 =>
  some x_15))))
abbrev rmX3_hangRight : Room := { frames := 1, cells := 0, slots := 0, locals := 22 }
set_option maxHeartbeats 4000000 in
set_option maxRecDepth 100000 in
theorem ok_X3_hangRight {l : Launch} {E : En} {o : Nat} {ad : (Nat → Nat)} {p1 : Int32} {p2 : Int32} {x : Ob} {r : Ob} (hf : fX3_hangRight p1 p2 x = some r) : CV l yX3_hangRight wsX3_hangRight (rmX3_hangRight) [.ref o, .int p1, .int p2] E (w3 E o ad x) (w3 E o ad r) := by
  refine xc_V (by decide) rfl (Nat.le_of_ble_eq_true rfl) [(0, .ref o), (1, .int p1), (2, .int p2)] rfl (fun p e s m below meth c A C hr => ?_)
  generalize ([.ref o, .int p1, .int p2] : List Value).toArray = args at C ⊢
  obtain ⟨Z, hZ⟩ : ∃ Z, Z = ZV E (w3 E o ad r) A below args s 0 0 := ⟨_, rfl⟩
  rw [← hZ]
  have in3 : ∀ w ∈ wsX30, w ∈ wsX3_hangRight := by decide +kernel
  have m15 : Cond.fieldLink RX3 15 "TurningTrees$Shape" "right" "[I" ∈ wsX3_hangRight := by decide +kernel
  have m18 : Cond.fieldLink RX3 18 "TurningTrees$Shape" "up" "[I" ∈ wsX3_hangRight := by decide +kernel
  rw [fX3_hangRight] at hf
  have h := hf
  refine xw_aload_n C dX3_hangRight_0 rfl 0 rfl ?_
  refine xw_get C in3 0 rfl rfl 1 (by decide) m15 rfl rfl dX3_hangRight_1 ?_
  refine xw_iload_n C dX3_hangRight_4 rfl 2 rfl ?_
  refine xw_iload_n C dX3_hangRight_5 rfl 1 rfl ?_
  obtain ⟨q6, eq6, h⟩ := px_b h
  refine px_n h (fun x_6 ex_6 h => ?_)
  refine xw_callNV (w' := w3 E o ad x_6) (u := (w3 E o ad x).take 2) (v := (w3 E o ad x).drop 3) C (ok_X5_put (a := (ad 1)) (nn := 64) (f := (x.2 1)) eq6) 3 gX3_hangRight_X5_put_n76 rfl ⟨rfl, rfl⟩ (by decide +kernel) (by decide +kernel) (by decide +kernel) (by decide +kernel) ⟨Nat.le_of_ble_eq_true rfl, Nat.le_of_ble_eq_true rfl⟩ rfl (Nat.le_of_ble_eq_true rfl) ⟨Nat.zero_le _, Nat.zero_le _⟩ rfl rfl (by rw [ex_6]; rfl) dX3_hangRight_6 ?_
  refine xw_aload_n C dX3_hangRight_9 rfl 0 rfl ?_
  refine xw_get C in3 0 rfl rfl 2 (by decide) m18 rfl rfl dX3_hangRight_10 ?_
  refine xw_iload_n C dX3_hangRight_13 rfl 1 rfl ?_
  refine xw_iload_n C dX3_hangRight_14 rfl 2 rfl ?_
  obtain ⟨q15, eq15, h⟩ := px_b h
  refine px_n h (fun x_15 ex_15 h => ?_)
  refine xw_callNV (w' := w3 E o ad x_15) (u := (w3 E o ad x_6).take 3) (v := (w3 E o ad x_6).drop 4) C (ok_X5_put (a := (ad 2)) (nn := 64) (f := (x_6.2 2)) eq15) 3 gX3_hangRight_X5_put_n76 rfl ⟨rfl, rfl⟩ (by decide +kernel) (by decide +kernel) (by decide +kernel) (by decide +kernel) ⟨Nat.le_of_ble_eq_true rfl, Nat.le_of_ble_eq_true rfl⟩ rfl (Nat.le_of_ble_eq_true rfl) ⟨Nat.zero_le _, Nat.zero_le _⟩ rfl rfl (by rw [ex_15]; rfl) dX3_hangRight_15 ?_
  cases h
  rw [hZ]
  exact xw_vret C hr dX3_hangRight_18
