def fJ7_fill_53178_L5 (nn : Nat) : Nat → Int32 → Int32 → Int32 → (Nat → Int32) → Option ((Nat → Int32))
  | 0, _, _, _, _ => none
  | n + 1, v1, v2, v3, f =>
  (if v3 ≤ v2 then
    some f
  else
    ix v2 nn (fun j13 =>
    px_let (upd f j13 v1) (fun f_13 =>
    px_let (v2 + (1) : Int32) (fun b14 =>
    fJ7_fill_53178_L5 nn n v1 b14 v3 f_13))))
def fJ7_fill_53178 (nn : Nat) (p1 : Int32) (f : (Nat → Int32)) : Option ((Nat → Int32)) :=
  px_let ((nI nn) : Int32) (fun b4 =>
  fJ7_fill_53178_L5 nn FU p1 (0) b4 f)
abbrev rmJ7_fill_53178 : Room := { frames := 0, cells := 0, slots := 0, locals := 0 }
set_option maxHeartbeats 4000000 in
set_option maxRecDepth 100000 in
theorem ok_J7_fill_53178 {l : Launch} {E : En} {a : Nat} {nn : Nat} {p1 : Int32} {f : (Nat → Int32)} {r : (Nat → Int32)} (hf : fJ7_fill_53178 nn p1 f = some r) : CV l yJ7_fill_53178 wsJ7_fill_53178 (rmJ7_fill_53178) [.ref a, .int p1] E (wA E a nn f) (wA E a nn r) := by
  refine xc_V (by decide) rfl (Nat.le_of_ble_eq_true rfl) [(0, .ref a), (1, .int p1)] rfl (fun p e s m below meth c A C hr => ?_)
  generalize ([.ref a, .int p1] : List Value).toArray = args at C ⊢
  obtain ⟨Z, hZ⟩ : ∃ Z, Z = ZV E (wA E a nn r) A below args s 0 0 := ⟨_, rfl⟩
  rw [← hZ]
  have hL5 : ∀ n : Nat, ∀ (v1 : Int32), ∀ (v2 : Int32), ∀ (v3 : Int32), ∀ (f : (Nat → Int32)), fJ7_fill_53178_L5 nn n v1 v2 v3 f = some r → XW E p l e rmJ7_fill_53178 s m args below meth c Z A 0 0 (wA E a nn f) 5 4 [(0, .ref a), (1, .int v1), (2, .int v2), (3, .int v3)] [] := by
    intro n
    induction n with
    | zero =>
      intro v1 v2 v3 f h
      rw [fJ7_fill_53178_L5] at h
      cases h
    | succ n ih =>
      intro v1 v2 v3 f h
      rw [fJ7_fill_53178_L5] at h
      refine xw_iload_n C dJ7_fill_53178_5 rfl 2 rfl ?_
      refine xw_iload_n C dJ7_fill_53178_6 rfl 3 rfl ?_
      refine xw_icmp_ge C 20 dJ7_fill_53178_7 (by decide) (fun c7 => ?_) (fun c7 => ?_)
      · have h := px_t c7 h
        cases h
        rw [hZ]
        exact xw_vret C hr dJ7_fill_53178_20
      · have h := px_f c7 h
        refine xw_aload_n C dJ7_fill_53178_10 rfl 0 rfl ?_
        refine xw_iload_n C dJ7_fill_53178_11 rfl 2 rfl ?_
        refine xw_iload_n C dJ7_fill_53178_12 rfl 1 rfl ?_
        obtain ⟨g13, h⟩ := px_x h
        refine px_n h (fun f_13 ef_13 h => ?_)
        refine xw_iast (w' := wA E a nn f_13) C 0 rfl g13 (by rw [ef_13]; rfl) dJ7_fill_53178_13 ?_
        refine px_n h (fun b14 eb14 h => ?_)
        refine xw_iinc (v := b14) C dJ7_fill_53178_14 2 rfl eb14 (by decide) (lv' := [(2, .int b14), (0, .ref a), (1, .int v1), (3, .int v3)]) rfl ?_
        refine xw_goto C 5 dJ7_fill_53178_17 (by decide) ?_
        refine xw_perm [1, 2, 0, 3] rfl ?_
        exact ih _ _ _ _ h
  rw [fJ7_fill_53178] at hf
  have h := hf
  refine xw_iconst C (0) dJ7_fill_53178_0 (by decide) ?_
  refine xw_istore_n C dJ7_fill_53178_1 rfl (by decide) (lv' := [(2, .int (0)), (0, .ref a), (1, .int p1)]) rfl ?_
  refine xw_aload_n C dJ7_fill_53178_2 rfl 1 rfl ?_
  refine xw_alen C 0 rfl dJ7_fill_53178_3 ?_
  refine xw_topi (fun b4 eb4 => ?_)
  have h := px_v h b4 eb4
  refine xw_istore_n C dJ7_fill_53178_4 rfl (by decide) (lv' := [(3, .int b4), (2, .int (0)), (0, .ref a), (1, .int p1)]) rfl ?_
  refine xw_perm [2, 3, 1, 0] rfl ?_
  exact hL5 _ _ _ _ _ h
def fX5_at (nn : Nat) (p1 : Int32) (f : (Nat → Int32)) : Option (Int32) :=
  (if p1 < 0 then
    some (-1)
  else
    (if (nI nn) ≤ p1 then
      some (-1)
    else
      ix p1 nn (fun j12 =>
      some (f j12))))
abbrev rmX5_at : Room := { frames := 0, cells := 0, slots := 0, locals := 0 }
set_option maxHeartbeats 4000000 in
set_option maxRecDepth 100000 in
theorem ok_X5_at {l : Launch} {E : En} {a : Nat} {nn : Nat} {p1 : Int32} {f : (Nat → Int32)} {r : Int32} (hf : fX5_at nn p1 f = some r) : CI l yX5_at wsX5_at (rmX5_at) [.ref a, .int p1] E (wA E a nn f) (wA E a nn f) (r) := by
  refine xc_I (by decide) rfl (Nat.le_of_ble_eq_true rfl) [(0, .ref a), (1, .int p1)] rfl (fun p e s m below meth c A C hr => ?_)
  generalize ([.ref a, .int p1] : List Value).toArray = args at C ⊢
  obtain ⟨Z, hZ⟩ : ∃ Z, Z = ZI E (wA E a nn f) (r) A below args s 0 0 := ⟨_, rfl⟩
  rw [← hZ]
  rw [fX5_at] at hf
  have h := hf
  refine xw_iload_n C dX5_at_0 rfl 1 rfl ?_
  refine xw_if_lt C 16 dX5_at_1 (by decide) (fun c1 => ?_) (fun c1 => ?_)
  · have h := px_t c1 h
    refine xw_iconst C (-1) dX5_at_16 (by decide) ?_
    cases h
    rw [hZ]
    exact xw_iret C hr dX5_at_17
  · have h := px_f c1 h
    refine xw_iload_n C dX5_at_4 rfl 1 rfl ?_
    refine xw_aload_n C dX5_at_5 rfl 0 rfl ?_
    refine xw_alen C 0 rfl dX5_at_6 ?_
    refine xw_icmp_ge C 16 dX5_at_7 (by decide) (fun c7 => ?_) (fun c7 => ?_)
    · have h := px_t c7 h
      refine xw_iconst C (-1) dX5_at_16 (by decide) ?_
      cases h
      rw [hZ]
      exact xw_iret C hr dX5_at_17
    · have h := px_f c7 h
      refine xw_aload_n C dX5_at_10 rfl 0 rfl ?_
      refine xw_iload_n C dX5_at_11 rfl 1 rfl ?_
      obtain ⟨g12, h⟩ := px_x h
      refine xw_iald C 0 rfl g12 dX5_at_12 ?_
      refine xw_goto C 17 dX5_at_13 (by decide) ?_
      cases h
      rw [hZ]
      exact xw_iret C hr dX5_at_17
def fX2_keyAt (p1 : Int32) (x : Ob) : Option (Int32) :=
  Option.bind (fX5_at 100 p1 (x.2 0)) (fun q5 =>
  some q5)
abbrev rmX2_keyAt : Room := { frames := 1, cells := 0, slots := 0, locals := 21 }
set_option maxHeartbeats 4000000 in
set_option maxRecDepth 100000 in
theorem ok_X2_keyAt {l : Launch} {E : En} {o : Nat} {ad : (Nat → Nat)} {p1 : Int32} {x : Ob} {r : Int32} (hf : fX2_keyAt p1 x = some r) : CI l yX2_keyAt wsX2_keyAt (rmX2_keyAt) [.ref o, .int p1] E (w2 E o ad x) (w2 E o ad x) (r) := by
  refine xc_I (by decide) rfl (Nat.le_of_ble_eq_true rfl) [(0, .ref o), (1, .int p1)] rfl (fun p e s m below meth c A C hr => ?_)
  generalize ([.ref o, .int p1] : List Value).toArray = args at C ⊢
  obtain ⟨Z, hZ⟩ : ∃ Z, Z = ZI E (w2 E o ad x) (r) A below args s 0 0 := ⟨_, rfl⟩
  rw [← hZ]
  have in2 : ∀ w ∈ wsX20, w ∈ wsX2_keyAt := by decide +kernel
  have m9 : Cond.fieldLink RX2 9 "TurningTrees$Row" "keys" "[I" ∈ wsX2_keyAt := by decide +kernel
  rw [fX2_keyAt] at hf
  have h := hf
  refine xw_aload_n C dX2_keyAt_0 rfl 0 rfl ?_
  refine xw_get C in2 0 rfl rfl 0 (by decide) m9 rfl rfl dX2_keyAt_1 ?_
  refine xw_iload_n C dX2_keyAt_4 rfl 1 rfl ?_
  obtain ⟨q5, eq5, h⟩ := px_b h
  refine xw_callNI (w' := w2 E o ad x) (u := (w2 E o ad x).take 1) (v := (w2 E o ad x).drop 2) C (ok_X5_at (a := (ad 0)) (nn := 100) (f := (x.2 0)) eq5) 2 gX2_keyAt_X5_at_n23 rfl ⟨rfl, rfl⟩ (by decide +kernel) (by decide +kernel) (by decide +kernel) (by decide +kernel) ⟨Nat.le_of_ble_eq_true rfl, Nat.le_of_ble_eq_true rfl⟩ rfl (Nat.le_of_ble_eq_true rfl) ⟨Nat.zero_le _, Nat.zero_le _⟩ rfl rfl (by rfl) dX2_keyAt_5 ?_
  cases h
  rw [hZ]
  exact xw_iret C hr dX2_keyAt_8
def fX5_put (nn : Nat) (p1 : Int32) (p2 : Int32) (f : (Nat → Int32)) : Option ((Nat → Int32)) :=
  (if p1 < 0 then
    some f
  else
    (if (nI nn) ≤ p1 then
      some f
    else
      ix p1 nn (fun j13 =>
      px_let (upd f j13 p2) (fun f_13 =>
      some f_13))))
abbrev rmX5_put : Room := { frames := 0, cells := 0, slots := 0, locals := 0 }
set_option maxHeartbeats 4000000 in
set_option maxRecDepth 100000 in
theorem ok_X5_put {l : Launch} {E : En} {a : Nat} {nn : Nat} {p1 : Int32} {p2 : Int32} {f : (Nat → Int32)} {r : (Nat → Int32)} (hf : fX5_put nn p1 p2 f = some r) : CV l yX5_put wsX5_put (rmX5_put) [.ref a, .int p1, .int p2] E (wA E a nn f) (wA E a nn r) := by
  refine xc_V (by decide) rfl (Nat.le_of_ble_eq_true rfl) [(0, .ref a), (1, .int p1), (2, .int p2)] rfl (fun p e s m below meth c A C hr => ?_)
  generalize ([.ref a, .int p1, .int p2] : List Value).toArray = args at C ⊢
  obtain ⟨Z, hZ⟩ : ∃ Z, Z = ZV E (wA E a nn r) A below args s 0 0 := ⟨_, rfl⟩
  rw [← hZ]
  rw [fX5_put] at hf
  have h := hf
  refine xw_iload_n C dX5_put_0 rfl 1 rfl ?_
  refine xw_if_lt C 14 dX5_put_1 (by decide) (fun c1 => ?_) (fun c1 => ?_)
  · have h := px_t c1 h
    cases h
    rw [hZ]
    exact xw_vret C hr dX5_put_14
  · have h := px_f c1 h
    refine xw_iload_n C dX5_put_4 rfl 1 rfl ?_
    refine xw_aload_n C dX5_put_5 rfl 0 rfl ?_
    refine xw_alen C 0 rfl dX5_put_6 ?_
    refine xw_icmp_ge C 14 dX5_put_7 (by decide) (fun c7 => ?_) (fun c7 => ?_)
    · have h := px_t c7 h
      cases h
      rw [hZ]
      exact xw_vret C hr dX5_put_14
    · have h := px_f c7 h
      refine xw_aload_n C dX5_put_10 rfl 0 rfl ?_
      refine xw_iload_n C dX5_put_11 rfl 1 rfl ?_
      refine xw_iload_n C dX5_put_12 rfl 2 rfl ?_
      obtain ⟨g13, h⟩ := px_x h
      refine px_n h (fun f_13 ef_13 h => ?_)
      refine xw_iast (w' := wA E a nn f_13) C 0 rfl g13 (by rw [ef_13]; rfl) dX5_put_13 ?_
      cases h
      rw [hZ]
      exact xw_vret C hr dX5_put_14
def fX0_countAsks_L10 : Nat → Int32 → Ob → Ob → Option (Ob)
  | 0, _, _, _ => none
  | n + 1, v2, x, x1 =>
  (if (x1.1 1) ≤ v2 then
    some x
  else
    Option.bind (fX2_keyAt v2 x1) (fun q20 =>
    Option.bind (fX5_at 64 q20 (x.2 1)) (fun q34 =>
    Option.bind (fX5_put 64 q20 (q34 + (1)) (x.2 1)) (fun q39 =>
    px_let (ob_f x 1 q39) (fun x_39 =>
    px_let (v2 + (1) : Int32) (fun b42 =>
    fX0_countAsks_L10 n b42 x_39 x1))))))
def fX0_countAsks (x : Ob) (x1 : Ob) : Option (Ob) :=
  Option.bind (fJ7_fill_53178 64 (0) (x.2 1)) (fun q5 =>
  px_let (ob_f x 1 q5) (fun x_5 =>
  fX0_countAsks_L10 FU (0) x_5 x1))
abbrev rmX0_countAsks : Room := { frames := 2, cells := 0, slots := 0, locals := 42 }
set_option maxHeartbeats 4000000 in
set_option maxRecDepth 100000 in
theorem ok_X0_countAsks {l : Launch} {E : En} {o : Nat} {ad : (Nat → Nat)} {o1 : Nat} {ad1 : (Nat → Nat)} {x : Ob} {x1 : Ob} {r : Ob} (hf : fX0_countAsks x x1 = some r) : CV l yX0_countAsks wsX0_countAsks (rmX0_countAsks) [.ref o, .ref o1] E (w0 E o ad x ++ w2 E o1 ad1 x1) (w0 E o ad r ++ w2 E o1 ad1 x1) := by
  refine xc_V (by decide) rfl (Nat.le_of_ble_eq_true rfl) [(0, .ref o), (1, .ref o1)] rfl (fun p e s m below meth c A C hr => ?_)
  generalize ([.ref o, .ref o1] : List Value).toArray = args at C ⊢
  obtain ⟨Z, hZ⟩ : ∃ Z, Z = ZV E (w0 E o ad r ++ w2 E o1 ad1 x1) A below args s 0 0 := ⟨_, rfl⟩
  rw [← hZ]
  have in0 : ∀ w ∈ wsX00, w ∈ wsX0_countAsks := by decide +kernel
  have in2 : ∀ w ∈ wsX20, w ∈ wsX0_countAsks := by decide +kernel
  have m15 : Cond.fieldLink RX0 15 "TurningTrees$BestStill" "asks" "[I" ∈ wsX0_countAsks := by decide +kernel
  have m56 : Cond.fieldLink RX0 56 "TurningTrees$Row" "length" "I" ∈ wsX0_countAsks := by decide +kernel
  have hL10 : ∀ n : Nat, ∀ (v2 : Int32), ∀ (x : Ob), fX0_countAsks_L10 n v2 x x1 = some r → XW E p l e rmX0_countAsks s m args below meth c Z A 0 0 (w0 E o ad x ++ w2 E o1 ad1 x1) 10 4 [(0, .ref o), (1, .ref o1), (2, .int v2)] [] := by
    intro n
    induction n with
    | zero =>
      intro v2 x h
      rw [fX0_countAsks_L10] at h
      cases h
    | succ n ih =>
      intro v2 x h
      rw [fX0_countAsks_L10] at h
      refine xw_iload_n C dX0_countAsks_10 rfl 2 rfl ?_
      refine xw_aload_n C dX0_countAsks_11 rfl 1 rfl ?_
      refine xw_get C in2 6 rfl rfl 1 (by decide) m56 rfl rfl dX0_countAsks_12 ?_
      refine xw_icmp_ge C 48 dX0_countAsks_15 (by decide) (fun c15 => ?_) (fun c15 => ?_)
      · have h := px_t c15 h
        cases h
        rw [hZ]
        exact xw_vret C hr dX0_countAsks_48
      · have h := px_f c15 h
        refine xw_aload_n C dX0_countAsks_18 rfl 1 rfl ?_
        refine xw_iload_n C dX0_countAsks_19 rfl 2 rfl ?_
        obtain ⟨q20, eq20, h⟩ := px_b h
        refine xw_callVI (w' := w0 E o ad x ++ w2 E o1 ad1 x1) (u := (w0 E o ad x ++ w2 E o1 ad1 x1).take 6) (v := (w0 E o ad x ++ w2 E o1 ad1 x1).drop 8) C (ok_X2_keyAt (o := o1) (ad := ad1) (x := x1) eq20) 1 gX0_countAsks_X2_keyAt rfl ⟨rfl, rfl⟩ (by decide +kernel) ⟨Nat.le_of_ble_eq_true rfl, Nat.le_of_ble_eq_true rfl⟩ 0 2 rfl rfl rfl (Nat.le_of_ble_eq_true rfl) ⟨Nat.zero_le _, Nat.zero_le _⟩ rfl rfl (by rfl) dX0_countAsks_20 ?_
        refine xw_istore_n C dX0_countAsks_23 rfl (by decide) (lv' := [(3, .int q20), (0, .ref o), (1, .ref o1), (2, .int v2)]) rfl ?_
        refine xw_aload_n C dX0_countAsks_24 rfl 1 rfl ?_
        refine xw_get C in0 0 rfl rfl 1 (by decide) m15 rfl rfl dX0_countAsks_25 ?_
        refine xw_iload_n C dX0_countAsks_28 rfl 0 rfl ?_
        refine xw_aload_n C dX0_countAsks_29 rfl 1 rfl ?_
        refine xw_get C in0 0 rfl rfl 1 (by decide) m15 rfl rfl dX0_countAsks_30 ?_
        refine xw_iload_n C dX0_countAsks_33 rfl 0 rfl ?_
        obtain ⟨q34, eq34, h⟩ := px_b h
        refine xw_callNI (w' := w0 E o ad x ++ w2 E o1 ad1 x1) (u := (w0 E o ad x ++ w2 E o1 ad1 x1).take 2) (v := (w0 E o ad x ++ w2 E o1 ad1 x1).drop 3) C (ok_X5_at (a := (ad 1)) (nn := 64) (f := (x.2 1)) eq34) 2 gX0_countAsks_X5_at_n46 rfl ⟨rfl, rfl⟩ (by decide +kernel) (by decide +kernel) (by decide +kernel) (by decide +kernel) ⟨Nat.le_of_ble_eq_true rfl, Nat.le_of_ble_eq_true rfl⟩ rfl (Nat.le_of_ble_eq_true rfl) ⟨Nat.zero_le _, Nat.zero_le _⟩ rfl rfl (by rfl) dX0_countAsks_34 ?_
        refine xw_iconst C (1) dX0_countAsks_37 (by decide) ?_
        refine xw_iadd C dX0_countAsks_38 ?_
        obtain ⟨q39, eq39, h⟩ := px_b h
        refine px_n h (fun x_39 ex_39 h => ?_)
        refine xw_callNV (w' := w0 E o ad x_39 ++ w2 E o1 ad1 x1) (u := (w0 E o ad x ++ w2 E o1 ad1 x1).take 2) (v := (w0 E o ad x ++ w2 E o1 ad1 x1).drop 3) C (ok_X5_put (a := (ad 1)) (nn := 64) (f := (x.2 1)) eq39) 3 gX0_countAsks_X5_put_n65 rfl ⟨rfl, rfl⟩ (by decide +kernel) (by decide +kernel) (by decide +kernel) (by decide +kernel) ⟨Nat.le_of_ble_eq_true rfl, Nat.le_of_ble_eq_true rfl⟩ rfl (Nat.le_of_ble_eq_true rfl) ⟨Nat.zero_le _, Nat.zero_le _⟩ rfl rfl (by rw [ex_39]; rfl) dX0_countAsks_39 ?_
        refine px_n h (fun b42 eb42 h => ?_)
        refine xw_iinc (v := b42) C dX0_countAsks_42 3 rfl eb42 (by decide) (lv' := [(2, .int b42), (3, .int q20), (0, .ref o), (1, .ref o1)]) rfl ?_
        refine xw_goto C 10 dX0_countAsks_45 (by decide) ?_
        refine xw_perm [2, 3, 0] rfl ?_
        exact ih _ _ h
  rw [fX0_countAsks] at hf
  have h := hf
  refine xw_aload_n C dX0_countAsks_0 rfl 0 rfl ?_
  refine xw_get C in0 0 rfl rfl 1 (by decide) m15 rfl rfl dX0_countAsks_1 ?_
  refine xw_iconst C (0) dX0_countAsks_4 (by decide) ?_
  obtain ⟨q5, eq5, h⟩ := px_b h
  refine px_n h (fun x_5 ex_5 h => ?_)
  refine xw_callSV (w' := w0 E o ad x_5 ++ w2 E o1 ad1 x1) (u := (w0 E o ad x ++ w2 E o1 ad1 x1).take 2) (v := (w0 E o ad x ++ w2 E o1 ad1 x1).drop 3) C (ok_J7_fill_53178 (a := (ad 1)) (nn := 64) (f := (x.2 1)) eq5) 2 gX0_countAsks_J7_fill_53178 rfl ⟨rfl, rfl⟩ (by decide +kernel) ⟨Nat.le_of_ble_eq_true rfl, Nat.le_of_ble_eq_true rfl⟩ rfl (Nat.le_of_ble_eq_true rfl) ⟨Nat.zero_le _, Nat.zero_le _⟩ rfl rfl (by rw [ex_5]; rfl) dX0_countAsks_5 ?_
  refine xw_iconst C (0) dX0_countAsks_8 (by decide) ?_
  refine xw_istore_n C dX0_countAsks_9 rfl (by decide) (lv' := [(2, .int (0)), (0, .ref o), (1, .ref o1)]) rfl ?_
  refine xw_perm [1, 2, 0] rfl ?_
  exact hL10 _ _ _ h
def fX3_sizeOf (p1 : Int32) (x : Ob) : Option (Int32) :=
  (if p1 < 0 then
    some (0)
  else
    (if (nI 64) ≤ p1 then
      some (0)
    else
      ix p1 64 (fun j18 =>
      some (x.2 3 j18))))
abbrev rmX3_sizeOf : Room := { frames := 0, cells := 0, slots := 0, locals := 0 }
set_option maxHeartbeats 4000000 in
set_option maxRecDepth 100000 in
theorem ok_X3_sizeOf {l : Launch} {E : En} {o : Nat} {ad : (Nat → Nat)} {p1 : Int32} {x : Ob} {r : Int32} (hf : fX3_sizeOf p1 x = some r) : CI l yX3_sizeOf wsX3_sizeOf (rmX3_sizeOf) [.ref o, .int p1] E (w3 E o ad x) (w3 E o ad x) (r) := by
  refine xc_I (by decide) rfl (Nat.le_of_ble_eq_true rfl) [(0, .ref o), (1, .int p1)] rfl (fun p e s m below meth c A C hr => ?_)
  generalize ([.ref o, .int p1] : List Value).toArray = args at C ⊢
  obtain ⟨Z, hZ⟩ : ∃ Z, Z = ZI E (w3 E o ad x) (r) A below args s 0 0 := ⟨_, rfl⟩
  rw [← hZ]
  have in3 : ∀ w ∈ wsX30, w ∈ wsX3_sizeOf := by decide +kernel
  have m21 : Cond.fieldLink RX3 21 "TurningTrees$Shape" "size" "[I" ∈ wsX3_sizeOf := by decide +kernel
  rw [fX3_sizeOf] at hf
  have h := hf
  refine xw_iload_n C dX3_sizeOf_0 rfl 1 rfl ?_
  refine xw_if_lt C 22 dX3_sizeOf_1 (by decide) (fun c1 => ?_) (fun c1 => ?_)
  · have h := px_t c1 h
    refine xw_iconst C (0) dX3_sizeOf_22 (by decide) ?_
    cases h
    rw [hZ]
    exact xw_iret C hr dX3_sizeOf_23
  · have h := px_f c1 h
    refine xw_iload_n C dX3_sizeOf_4 rfl 1 rfl ?_
    refine xw_aload_n C dX3_sizeOf_5 rfl 0 rfl ?_
    refine xw_get C in3 0 rfl rfl 3 (by decide) m21 rfl rfl dX3_sizeOf_6 ?_
    refine xw_alen C 4 rfl dX3_sizeOf_9 ?_
    refine xw_icmp_ge C 22 dX3_sizeOf_10 (by decide) (fun c10 => ?_) (fun c10 => ?_)
    · have h := px_t c10 h
      refine xw_iconst C (0) dX3_sizeOf_22 (by decide) ?_
      cases h
      rw [hZ]
      exact xw_iret C hr dX3_sizeOf_23
    · have h := px_f c10 h
      refine xw_aload_n C dX3_sizeOf_13 rfl 0 rfl ?_
      refine xw_get C in3 0 rfl rfl 3 (by decide) m21 rfl rfl dX3_sizeOf_14 ?_
      refine xw_iload_n C dX3_sizeOf_17 rfl 1 rfl ?_
      obtain ⟨g18, h⟩ := px_x h
      refine xw_iald C 4 rfl g18 dX3_sizeOf_18 ?_
      refine xw_goto C 23 dX3_sizeOf_19 (by decide) ?_
      cases h
      rw [hZ]
      exact xw_iret C hr dX3_sizeOf_23
def fX3_holds (p1 : Int32) (x : Ob) : Option (Int32) :=
  Option.bind (fX3_sizeOf p1 x) (fun q2 =>
  (if q2 ≤ 0 then
    some (0)
  else
    some (1)))
abbrev rmX3_holds : Room := { frames := 1, cells := 0, slots := 0, locals := 21 }
set_option maxHeartbeats 4000000 in
set_option maxRecDepth 100000 in
theorem ok_X3_holds {l : Launch} {E : En} {o : Nat} {ad : (Nat → Nat)} {p1 : Int32} {x : Ob} {r : Int32} (hf : fX3_holds p1 x = some r) : CI l yX3_holds wsX3_holds (rmX3_holds) [.ref o, .int p1] E (w3 E o ad x) (w3 E o ad x) (r) := by
  refine xc_I (by decide) rfl (Nat.le_of_ble_eq_true rfl) [(0, .ref o), (1, .int p1)] rfl (fun p e s m below meth c A C hr => ?_)
  generalize ([.ref o, .int p1] : List Value).toArray = args at C ⊢
  obtain ⟨Z, hZ⟩ : ∃ Z, Z = ZI E (w3 E o ad x) (r) A below args s 0 0 := ⟨_, rfl⟩
  rw [← hZ]
  rw [fX3_holds] at hf
  have h := hf
  refine xw_aload_n C dX3_holds_0 rfl 0 rfl ?_
  refine xw_iload_n C dX3_holds_1 rfl 1 rfl ?_
  obtain ⟨q2, eq2, h⟩ := px_b h
  refine xw_callVI (w' := w3 E o ad x) (u := []) (v := []) C (ok_X3_sizeOf (o := o) (ad := ad) (x := x) eq2) 1 gX3_holds_X3_sizeOf rfl ⟨rfl, rfl⟩ (by decide +kernel) ⟨Nat.le_of_ble_eq_true rfl, Nat.le_of_ble_eq_true rfl⟩ 0 3 rfl rfl rfl (Nat.le_of_ble_eq_true rfl) ⟨Nat.zero_le _, Nat.zero_le _⟩ rfl xe0 xe0.symm dX3_holds_2 ?_
  refine xw_if_le C 12 dX3_holds_5 (by decide) (fun c5 => ?_) (fun c5 => ?_)
  · have h := px_t c5 h
    refine xw_iconst C (0) dX3_holds_12 (by decide) ?_
    cases h
    rw [hZ]
    exact xw_zret C hr (Or.inl rfl) dX3_holds_13
  · have h := px_f c5 h
    refine xw_iconst C (1) dX3_holds_8 (by decide) ?_
    refine xw_goto C 13 dX3_holds_9 (by decide) ?_
    cases h
    rw [hZ]
    exact xw_zret C hr (Or.inr rfl) dX3_holds_13
def fX0_gatherKeys_J57 (k4 : Int32 → Int32 → Ob → Ob → Option (Int32 × Ob)) (v2 : Int32) (v3 : Int32) (x1 : Ob) (x : Ob) : Option (Int32 × Ob) :=
  px_let (v3 + (1) : Int32) (fun b57 =>
  k4 v2 b57 x1 x)
def fX0_gatherKeys_L4 : Nat → Int32 → Int32 → Ob → Ob → Option (Int32 × Ob)
  | 0, _, _, _, _ => none
  | n + 1, v2, v3, x1, x =>
  (if (64) ≤ v3 then
    some (v2, x)
  else
    Option.bind (fX3_holds v3 x1) (fun q12 =>
    (if q12 = 0 then
      fX0_gatherKeys_J57 (fX0_gatherKeys_L4 n) v2 v3 x1 x
    else
      Option.bind (fX5_put 64 v2 v3 (x.2 0)) (fun q24 =>
      px_let (ob_f x 0 q24) (fun x_24 =>
      Option.bind (fX5_at 65 v2 (x_24.2 2)) (fun q39 =>
      Option.bind (fX5_at 64 v3 (x_24.2 1)) (fun q47 =>
      Option.bind (fX5_put 65 (v2 + (1)) (q39 + q47) (x_24.2 2)) (fun q51 =>
      px_let (ob_f x_24 2 q51) (fun x_51 =>
      px_let (v2 + (1) : Int32) (fun b54 =>
      fX0_gatherKeys_J57 (fX0_gatherKeys_L4 n) b54 v3 x1 x_51))))))))))
def fX0_gatherKeys (x1 : Ob) (x : Ob) : Option (Int32 × Ob) :=
  fX0_gatherKeys_L4 FU (0) (0) x1 x
abbrev rmX0_gatherKeys : Room := { frames := 2, cells := 0, slots := 0, locals := 42 }
set_option maxHeartbeats 4000000 in
set_option maxRecDepth 100000 in
theorem ok_X0_gatherKeys {l : Launch} {E : En} {o1 : Nat} {ad1 : (Nat → Nat)} {o : Nat} {ad : (Nat → Nat)} {x1 : Ob} {x : Ob} {r : Int32 × Ob} (hf : fX0_gatherKeys x1 x = some r) : CI l yX0_gatherKeys wsX0_gatherKeys (rmX0_gatherKeys) [.ref o, .ref o1] E (w3 E o1 ad1 x1 ++ w0 E o ad x) (w3 E o1 ad1 x1 ++ w0 E o ad r.2) (r.1) := by
  refine xc_I (by decide) rfl (Nat.le_of_ble_eq_true rfl) [(0, .ref o), (1, .ref o1)] rfl (fun p e s m below meth c A C hr => ?_)
  generalize ([.ref o, .ref o1] : List Value).toArray = args at C ⊢
  obtain ⟨Z, hZ⟩ : ∃ Z, Z = ZI E (w3 E o1 ad1 x1 ++ w0 E o ad r.2) (r.1) A below args s 0 0 := ⟨_, rfl⟩
  rw [← hZ]
  have in0 : ∀ w ∈ wsX00, w ∈ wsX0_gatherKeys := by decide +kernel
  have m9 : Cond.fieldLink RX0 9 "TurningTrees$BestStill" "keys" "[I" ∈ wsX0_gatherKeys := by decide +kernel
  have m15 : Cond.fieldLink RX0 15 "TurningTrees$BestStill" "asks" "[I" ∈ wsX0_gatherKeys := by decide +kernel
  have m18 : Cond.fieldLink RX0 18 "TurningTrees$BestStill" "asksBefore" "[I" ∈ wsX0_gatherKeys := by decide +kernel
  have hJ57 : ∀ (k4 : Int32 → Int32 → Ob → Ob → Option (Int32 × Ob)), (∀ (v2 : Int32), ∀ (v3 : Int32), ∀ (x : Ob), k4 v2 v3 x1 x = some r → XW E p l e rmX0_gatherKeys s m args below meth c Z A 0 0 (w3 E o1 ad1 x1 ++ w0 E o ad x) 4 4 [(0, .ref o), (1, .ref o1), (2, .int v2), (3, .int v3)] []) → ∀ (v2 : Int32), ∀ (v3 : Int32), ∀ (x : Ob), fX0_gatherKeys_J57 k4 v2 v3 x1 x = some r → XW E p l e rmX0_gatherKeys s m args below meth c Z A 0 0 (w3 E o1 ad1 x1 ++ w0 E o ad x) 57 4 [(0, .ref o), (1, .ref o1), (2, .int v2), (3, .int v3)] [] := by
    intro k4 hk4 v2 v3 x h
    rw [fX0_gatherKeys_J57] at h
    refine px_n h (fun b57 eb57 h => ?_)
    refine xw_iinc (v := b57) C dX0_gatherKeys_57 3 rfl eb57 (by decide) (lv' := [(3, .int b57), (0, .ref o), (1, .ref o1), (2, .int v2)]) rfl ?_
    refine xw_goto C 4 dX0_gatherKeys_60 (by decide) ?_
    refine xw_perm [1, 2, 3, 0] rfl ?_
    exact hk4 _ _ _ h
  have hL4 : ∀ n : Nat, ∀ (v2 : Int32), ∀ (v3 : Int32), ∀ (x : Ob), fX0_gatherKeys_L4 n v2 v3 x1 x = some r → XW E p l e rmX0_gatherKeys s m args below meth c Z A 0 0 (w3 E o1 ad1 x1 ++ w0 E o ad x) 4 4 [(0, .ref o), (1, .ref o1), (2, .int v2), (3, .int v3)] [] := by
    intro n
    induction n with
    | zero =>
      intro v2 v3 x h
      rw [fX0_gatherKeys_L4] at h
      cases h
    | succ n ih =>
      intro v2 v3 x h
      rw [fX0_gatherKeys_L4] at h
      refine xw_iload_n C dX0_gatherKeys_4 rfl 3 rfl ?_
      refine xw_bipush C (64) dX0_gatherKeys_5 (by decide) ?_
      refine xw_icmp_ge C 63 dX0_gatherKeys_7 (by decide) (fun c7 => ?_) (fun c7 => ?_)
      · have h := px_t c7 h
        refine xw_iload_n C dX0_gatherKeys_63 rfl 2 rfl ?_
        cases h
        rw [hZ]
        exact xw_iret C hr dX0_gatherKeys_64
      · have h := px_f c7 h
        refine xw_aload_n C dX0_gatherKeys_10 rfl 1 rfl ?_
        refine xw_iload_n C dX0_gatherKeys_11 rfl 3 rfl ?_
        obtain ⟨q12, eq12, h⟩ := px_b h
        refine xw_callVI (w' := w3 E o1 ad1 x1 ++ w0 E o ad x) (u := (w3 E o1 ad1 x1 ++ w0 E o ad x).take 0) (v := (w3 E o1 ad1 x1 ++ w0 E o ad x).drop 6) C (ok_X3_holds (o := o1) (ad := ad1) (x := x1) eq12) 1 gX0_gatherKeys_X3_holds rfl ⟨rfl, rfl⟩ (by decide +kernel) ⟨Nat.le_of_ble_eq_true rfl, Nat.le_of_ble_eq_true rfl⟩ 0 3 rfl rfl rfl (Nat.le_of_ble_eq_true rfl) ⟨Nat.zero_le _, Nat.zero_le _⟩ rfl rfl (by rfl) dX0_gatherKeys_12 ?_
        refine xw_if_eq C 57 dX0_gatherKeys_15 (by decide) (fun c15 => ?_) (fun c15 => ?_)
        · have h := px_t c15 h
          exact hJ57 _ ih _ _ _ h
        · have h := px_f c15 h
          refine xw_aload_n C dX0_gatherKeys_18 rfl 0 rfl ?_
          refine xw_get C in0 6 rfl rfl 0 (by decide) m9 rfl rfl dX0_gatherKeys_19 ?_
          refine xw_iload_n C dX0_gatherKeys_22 rfl 2 rfl ?_
          refine xw_iload_n C dX0_gatherKeys_23 rfl 3 rfl ?_
          obtain ⟨q24, eq24, h⟩ := px_b h
          refine px_n h (fun x_24 ex_24 h => ?_)
          refine xw_callNV (w' := w3 E o1 ad1 x1 ++ w0 E o ad x_24) (u := (w3 E o1 ad1 x1 ++ w0 E o ad x).take 7) (v := (w3 E o1 ad1 x1 ++ w0 E o ad x).drop 8) C (ok_X5_put (a := (ad 0)) (nn := 64) (f := (x.2 0)) eq24) 3 gX0_gatherKeys_X5_put_n65 rfl ⟨rfl, rfl⟩ (by decide +kernel) (by decide +kernel) (by decide +kernel) (by decide +kernel) ⟨Nat.le_of_ble_eq_true rfl, Nat.le_of_ble_eq_true rfl⟩ rfl (Nat.le_of_ble_eq_true rfl) ⟨Nat.zero_le _, Nat.zero_le _⟩ rfl rfl (by rw [ex_24]; rfl) dX0_gatherKeys_24 ?_
          refine xw_aload_n C dX0_gatherKeys_27 rfl 0 rfl ?_
          refine xw_get C in0 6 rfl rfl 2 (by decide) m18 rfl rfl dX0_gatherKeys_28 ?_
          refine xw_iload_n C dX0_gatherKeys_31 rfl 2 rfl ?_
          refine xw_iconst C (1) dX0_gatherKeys_32 (by decide) ?_
          refine xw_iadd C dX0_gatherKeys_33 ?_
          refine xw_aload_n C dX0_gatherKeys_34 rfl 0 rfl ?_
          refine xw_get C in0 6 rfl rfl 2 (by decide) m18 rfl rfl dX0_gatherKeys_35 ?_
          refine xw_iload_n C dX0_gatherKeys_38 rfl 2 rfl ?_
          obtain ⟨q39, eq39, h⟩ := px_b h
          refine xw_callNI (w' := w3 E o1 ad1 x1 ++ w0 E o ad x_24) (u := (w3 E o1 ad1 x1 ++ w0 E o ad x_24).take 9) (v := (w3 E o1 ad1 x1 ++ w0 E o ad x_24).drop 10) C (ok_X5_at (a := (ad 2)) (nn := 65) (f := (x_24.2 2)) eq39) 2 gX0_gatherKeys_X5_at_n46 rfl ⟨rfl, rfl⟩ (by decide +kernel) (by decide +kernel) (by decide +kernel) (by decide +kernel) ⟨Nat.le_of_ble_eq_true rfl, Nat.le_of_ble_eq_true rfl⟩ rfl (Nat.le_of_ble_eq_true rfl) ⟨Nat.zero_le _, Nat.zero_le _⟩ rfl rfl (by rfl) dX0_gatherKeys_39 ?_
          refine xw_aload_n C dX0_gatherKeys_42 rfl 0 rfl ?_
          refine xw_get C in0 6 rfl rfl 1 (by decide) m15 rfl rfl dX0_gatherKeys_43 ?_
          refine xw_iload_n C dX0_gatherKeys_46 rfl 3 rfl ?_
          obtain ⟨q47, eq47, h⟩ := px_b h
          refine xw_callNI (w' := w3 E o1 ad1 x1 ++ w0 E o ad x_24) (u := (w3 E o1 ad1 x1 ++ w0 E o ad x_24).take 8) (v := (w3 E o1 ad1 x1 ++ w0 E o ad x_24).drop 9) C (ok_X5_at (a := (ad 1)) (nn := 64) (f := (x_24.2 1)) eq47) 2 gX0_gatherKeys_X5_at_n46 rfl ⟨rfl, rfl⟩ (by decide +kernel) (by decide +kernel) (by decide +kernel) (by decide +kernel) ⟨Nat.le_of_ble_eq_true rfl, Nat.le_of_ble_eq_true rfl⟩ rfl (Nat.le_of_ble_eq_true rfl) ⟨Nat.zero_le _, Nat.zero_le _⟩ rfl rfl (by rfl) dX0_gatherKeys_47 ?_
          refine xw_iadd C dX0_gatherKeys_50 ?_
          obtain ⟨q51, eq51, h⟩ := px_b h
          refine px_n h (fun x_51 ex_51 h => ?_)
          refine xw_callNV (w' := w3 E o1 ad1 x1 ++ w0 E o ad x_51) (u := (w3 E o1 ad1 x1 ++ w0 E o ad x_24).take 9) (v := (w3 E o1 ad1 x1 ++ w0 E o ad x_24).drop 10) C (ok_X5_put (a := (ad 2)) (nn := 65) (f := (x_24.2 2)) eq51) 3 gX0_gatherKeys_X5_put_n65 rfl ⟨rfl, rfl⟩ (by decide +kernel) (by decide +kernel) (by decide +kernel) (by decide +kernel) ⟨Nat.le_of_ble_eq_true rfl, Nat.le_of_ble_eq_true rfl⟩ rfl (Nat.le_of_ble_eq_true rfl) ⟨Nat.zero_le _, Nat.zero_le _⟩ rfl rfl (by rw [ex_51]; rfl) dX0_gatherKeys_51 ?_
          refine px_n h (fun b54 eb54 h => ?_)
          refine xw_iinc (v := b54) C dX0_gatherKeys_54 2 rfl eb54 (by decide) (lv' := [(2, .int b54), (0, .ref o), (1, .ref o1), (3, .int v3)]) rfl ?_
          refine xw_perm [1, 2, 0, 3] rfl ?_
          exact hJ57 _ ih _ _ _ h
  rw [fX0_gatherKeys] at hf
  have h := hf
  refine xw_iconst C (0) dX0_gatherKeys_0 (by decide) ?_
  refine xw_istore_n C dX0_gatherKeys_1 rfl (by decide) (lv' := [(2, .int (0)), (0, .ref o), (1, .ref o1)]) rfl ?_
  refine xw_iconst C (0) dX0_gatherKeys_2 (by decide) ?_
  refine xw_istore_n C dX0_gatherKeys_3 rfl (by decide) (lv' := [(3, .int (0)), (2, .int (0)), (0, .ref o), (1, .ref o1)]) rfl ?_
  refine xw_perm [2, 3, 1, 0] rfl ?_
  exact hL4 _ _ _ _ h
def fX0_sumBelow (p1 : Int32) (p2 : Int32) (p3 : Int32) (x : Ob) : Option (Int32) :=
  Option.bind (fX5_at 4225 ((p1 * (65)) + p3) (x.2 3)) (fun q10 =>
  Option.bind (fX5_at 4225 (((p3 + (1)) * (65)) + p2) (x.2 3)) (fun q25 =>
  some (q10 + q25)))
abbrev rmX0_sumBelow : Room := { frames := 1, cells := 0, slots := 0, locals := 21 }
set_option maxHeartbeats 4000000 in
set_option maxRecDepth 100000 in
theorem ok_X0_sumBelow {l : Launch} {E : En} {o : Nat} {ad : (Nat → Nat)} {p1 : Int32} {p2 : Int32} {p3 : Int32} {x : Ob} {r : Int32} (hf : fX0_sumBelow p1 p2 p3 x = some r) : CI l yX0_sumBelow wsX0_sumBelow (rmX0_sumBelow) [.ref o, .int p1, .int p2, .int p3] E (w0 E o ad x) (w0 E o ad x) (r) := by
  refine xc_I (by decide) rfl (Nat.le_of_ble_eq_true rfl) [(0, .ref o), (1, .int p1), (2, .int p2), (3, .int p3)] rfl (fun p e s m below meth c A C hr => ?_)
  generalize ([.ref o, .int p1, .int p2, .int p3] : List Value).toArray = args at C ⊢
  obtain ⟨Z, hZ⟩ : ∃ Z, Z = ZI E (w0 E o ad x) (r) A below args s 0 0 := ⟨_, rfl⟩
  rw [← hZ]
  have in0 : ∀ w ∈ wsX00, w ∈ wsX0_sumBelow := by decide +kernel
  have m21 : Cond.fieldLink RX0 21 "TurningTrees$BestStill" "least" "[I" ∈ wsX0_sumBelow := by decide +kernel
  rw [fX0_sumBelow] at hf
  have h := hf
  refine xw_aload_n C dX0_sumBelow_0 rfl 0 rfl ?_
  refine xw_get C in0 0 rfl rfl 3 (by decide) m21 rfl rfl dX0_sumBelow_1 ?_
  refine xw_iload_n C dX0_sumBelow_4 rfl 1 rfl ?_
  refine xw_bipush C (65) dX0_sumBelow_5 (by decide) ?_
  refine xw_imul C dX0_sumBelow_7 ?_
  refine xw_iload_n C dX0_sumBelow_8 rfl 3 rfl ?_
  refine xw_iadd C dX0_sumBelow_9 ?_
  obtain ⟨q10, eq10, h⟩ := px_b h
  refine xw_callNI (w' := w0 E o ad x) (u := (w0 E o ad x).take 4) (v := (w0 E o ad x).drop 5) C (ok_X5_at (a := (ad 3)) (nn := 4225) (f := (x.2 3)) eq10) 2 gX0_sumBelow_X5_at_n46 rfl ⟨rfl, rfl⟩ (by decide +kernel) (by decide +kernel) (by decide +kernel) (by decide +kernel) ⟨Nat.le_of_ble_eq_true rfl, Nat.le_of_ble_eq_true rfl⟩ rfl (Nat.le_of_ble_eq_true rfl) ⟨Nat.zero_le _, Nat.zero_le _⟩ rfl rfl (by rfl) dX0_sumBelow_10 ?_
  refine xw_aload_n C dX0_sumBelow_13 rfl 0 rfl ?_
  refine xw_get C in0 0 rfl rfl 3 (by decide) m21 rfl rfl dX0_sumBelow_14 ?_
  refine xw_iload_n C dX0_sumBelow_17 rfl 3 rfl ?_
  refine xw_iconst C (1) dX0_sumBelow_18 (by decide) ?_
  refine xw_iadd C dX0_sumBelow_19 ?_
  refine xw_bipush C (65) dX0_sumBelow_20 (by decide) ?_
  refine xw_imul C dX0_sumBelow_22 ?_
  refine xw_iload_n C dX0_sumBelow_23 rfl 2 rfl ?_
  refine xw_iadd C dX0_sumBelow_24 ?_
  obtain ⟨q25, eq25, h⟩ := px_b h
  refine xw_callNI (w' := w0 E o ad x) (u := (w0 E o ad x).take 4) (v := (w0 E o ad x).drop 5) C (ok_X5_at (a := (ad 3)) (nn := 4225) (f := (x.2 3)) eq25) 2 gX0_sumBelow_X5_at_n46 rfl ⟨rfl, rfl⟩ (by decide +kernel) (by decide +kernel) (by decide +kernel) (by decide +kernel) ⟨Nat.le_of_ble_eq_true rfl, Nat.le_of_ble_eq_true rfl⟩ rfl (Nat.le_of_ble_eq_true rfl) ⟨Nat.zero_le _, Nat.zero_le _⟩ rfl rfl (by rfl) dX0_sumBelow_25 ?_
  refine xw_iadd C dX0_sumBelow_28 ?_
  cases h
  rw [hZ]
  exact xw_iret C hr dX0_sumBelow_29
def fX0_lowestTop_J109 (k71 : Int32 → Int32 → Int32 → Int32 → Int32 → Int32 → Ob → Option (Int32)) (v1 : Int32) (v2 : Int32) (v5 : Int32) (v6 : Int32) (v7 : Int32) (v8 : Int32) (x : Ob) : Option (Int32) :=
  px_let (v8 + (1) : Int32) (fun b109 =>
  k71 v1 v2 v5 v6 v7 b109 x)
def fX0_lowestTop_L71 : Nat → Int32 → Int32 → Int32 → Int32 → Int32 → Int32 → Ob → Option (Int32)
  | 0, _, _, _, _, _, _, _ => none
  | n + 1, v1, v2, v5, v6, v7, v8, x =>
  (if v5 < v8 then
    some v6
  else
    (if v2 ≤ v8 then
      some v6
    else
      Option.bind (fX0_sumBelow v1 v2 v8 x) (fun q89 =>
      (if v7 ≤ q89 then
        fX0_lowestTop_J109 (fX0_lowestTop_L71 n) v1 v2 v5 v6 v7 v8 x
      else
        fX0_lowestTop_J109 (fX0_lowestTop_L71 n) v1 v2 v5 v8 q89 v8 x))))
def fX0_lowestTop_J49 (v1 : Int32) (v2 : Int32) (v4 : Int32) (s0 : Int32) (x : Ob) : Option (Int32) :=
  Option.bind (fX0_sumBelow v1 v2 v4 x) (fun q60 =>
  px_let ((v4 + (1)) : Int32) (fun b69 =>
  fX0_lowestTop_L71 FU v1 v2 s0 v4 q60 b69 x))
def fX0_lowestTop_J29 (v1 : Int32) (v2 : Int32) (v3 : Int32) (s0 : Int32) (x : Ob) : Option (Int32) :=
  (if v3 = 0 then
    Option.bind (fX5_at 64 (v1 + (1)) (x.2 4)) (fun q46 =>
    fX0_lowestTop_J49 v1 v2 s0 q46 x)
  else
    fX0_lowestTop_J49 v1 v2 s0 v1 x)
def fX0_lowestTop_J12 (v1 : Int32) (v2 : Int32) (s0 : Int32) (x : Ob) : Option (Int32) :=
  (if s0 = 0 then
    Option.bind (fX5_at 64 v1 (x.2 4)) (fun q26 =>
    fX0_lowestTop_J29 v1 v2 s0 q26 x)
  else
    fX0_lowestTop_J29 v1 v2 s0 v1 x)
def fX0_lowestTop (p1 : Int32) (p2 : Int32) (x : Ob) : Option (Int32) :=
  (if (p2 - p1) = (1) then
    fX0_lowestTop_J12 p1 p2 (1) x
  else
    fX0_lowestTop_J12 p1 p2 (0) x)
abbrev rmX0_lowestTop : Room := { frames := 2, cells := 0, slots := 0, locals := 44 }
set_option maxHeartbeats 4000000 in
set_option maxRecDepth 100000 in
theorem ok_X0_lowestTop {l : Launch} {E : En} {o : Nat} {ad : (Nat → Nat)} {p1 : Int32} {p2 : Int32} {x : Ob} {r : Int32} (hf : fX0_lowestTop p1 p2 x = some r) : CI l yX0_lowestTop wsX0_lowestTop (rmX0_lowestTop) [.ref o, .int p1, .int p2] E (w0 E o ad x) (w0 E o ad x) (r) := by
  refine xc_I (by decide) rfl (Nat.le_of_ble_eq_true rfl) [(0, .ref o), (1, .int p1), (2, .int p2)] rfl (fun p e s m below meth c A C hr => ?_)
  generalize ([.ref o, .int p1, .int p2] : List Value).toArray = args at C ⊢
  obtain ⟨Z, hZ⟩ : ∃ Z, Z = ZI E (w0 E o ad x) (r) A below args s 0 0 := ⟨_, rfl⟩
  rw [← hZ]
  have in0 : ∀ w ∈ wsX00, w ∈ wsX0_lowestTop := by decide +kernel
  have m24 : Cond.fieldLink RX0 24 "TurningTrees$BestStill" "tops" "[I" ∈ wsX0_lowestTop := by decide +kernel
  have hJ109 : ∀ (k71 : Int32 → Int32 → Int32 → Int32 → Int32 → Int32 → Ob → Option (Int32)), (∀ (v1 : Int32), ∀ (v2 : Int32), ∀ (v5 : Int32), ∀ (v6 : Int32), ∀ (v7 : Int32), ∀ (v8 : Int32), k71 v1 v2 v5 v6 v7 v8 x = some r → XW E p l e rmX0_lowestTop s m args below meth c Z A 0 0 (w0 E o ad x) 71 10 [(0, .ref o), (1, .int v1), (2, .int v2), (5, .int v5), (6, .int v6), (7, .int v7), (8, .int v8)] []) → ∀ (v1 : Int32), ∀ (v2 : Int32), ∀ (v5 : Int32), ∀ (v6 : Int32), ∀ (v7 : Int32), ∀ (v8 : Int32), fX0_lowestTop_J109 k71 v1 v2 v5 v6 v7 v8 x = some r → XW E p l e rmX0_lowestTop s m args below meth c Z A 0 0 (w0 E o ad x) 109 10 [(0, .ref o), (1, .int v1), (2, .int v2), (5, .int v5), (6, .int v6), (7, .int v7), (8, .int v8)] [] := by
    intro k71 hk71 v1 v2 v5 v6 v7 v8 h
    rw [fX0_lowestTop_J109] at h
    refine px_n h (fun b109 eb109 h => ?_)
    refine xw_iinc (v := b109) C dX0_lowestTop_109 6 rfl eb109 (by decide) (lv' := [(8, .int b109), (0, .ref o), (1, .int v1), (2, .int v2), (5, .int v5), (6, .int v6), (7, .int v7)]) rfl ?_
    refine xw_goto C 71 dX0_lowestTop_112 (by decide) ?_
    refine xw_perm [1, 2, 3, 4, 5, 6, 0] rfl ?_
    exact hk71 _ _ _ _ _ _ h
  have hL71 : ∀ n : Nat, ∀ (v1 : Int32), ∀ (v2 : Int32), ∀ (v5 : Int32), ∀ (v6 : Int32), ∀ (v7 : Int32), ∀ (v8 : Int32), fX0_lowestTop_L71 n v1 v2 v5 v6 v7 v8 x = some r → XW E p l e rmX0_lowestTop s m args below meth c Z A 0 0 (w0 E o ad x) 71 10 [(0, .ref o), (1, .int v1), (2, .int v2), (5, .int v5), (6, .int v6), (7, .int v7), (8, .int v8)] [] := by
    intro n
    induction n with
    | zero =>
      intro v1 v2 v5 v6 v7 v8 h
      rw [fX0_lowestTop_L71] at h
      cases h
    | succ n ih =>
      intro v1 v2 v5 v6 v7 v8 h
      rw [fX0_lowestTop_L71] at h
      refine xw_iload C dX0_lowestTop_71 6 rfl ?_
      refine xw_iload C dX0_lowestTop_73 3 rfl ?_
      refine xw_icmp_gt C 115 dX0_lowestTop_75 (by decide) (fun c75 => ?_) (fun c75 => ?_)
      · have h := px_t c75 h
        refine xw_iload C dX0_lowestTop_115 4 rfl ?_
        cases h
        rw [hZ]
        exact xw_iret C hr dX0_lowestTop_117
      · have h := px_f c75 h
        refine xw_iload C dX0_lowestTop_78 6 rfl ?_
        refine xw_iload_n C dX0_lowestTop_80 rfl 2 rfl ?_
        refine xw_icmp_ge C 115 dX0_lowestTop_81 (by decide) (fun c81 => ?_) (fun c81 => ?_)
        · have h := px_t c81 h
          refine xw_iload C dX0_lowestTop_115 4 rfl ?_
          cases h
          rw [hZ]
          exact xw_iret C hr dX0_lowestTop_117
        · have h := px_f c81 h
          refine xw_aload_n C dX0_lowestTop_84 rfl 0 rfl ?_
          refine xw_iload_n C dX0_lowestTop_85 rfl 1 rfl ?_
          refine xw_iload_n C dX0_lowestTop_86 rfl 2 rfl ?_
          refine xw_iload C dX0_lowestTop_87 6 rfl ?_
          obtain ⟨q89, eq89, h⟩ := px_b h
          refine xw_callVI (w' := w0 E o ad x) (u := []) (v := []) C (ok_X0_sumBelow (o := o) (ad := ad) (x := x) eq89) 3 gX0_lowestTop_X0_sumBelow rfl ⟨rfl, rfl⟩ (by decide +kernel) ⟨Nat.le_of_ble_eq_true rfl, Nat.le_of_ble_eq_true rfl⟩ 0 0 rfl rfl rfl (Nat.le_of_ble_eq_true rfl) ⟨Nat.zero_le _, Nat.zero_le _⟩ rfl xe0 xe0.symm dX0_lowestTop_89 ?_
          refine xw_istore C dX0_lowestTop_92 (by decide) (lv' := [(9, .int q89), (0, .ref o), (1, .int v1), (2, .int v2), (5, .int v5), (6, .int v6), (7, .int v7), (8, .int v8)]) rfl ?_
          refine xw_iload C dX0_lowestTop_94 0 rfl ?_
          refine xw_iload C dX0_lowestTop_96 6 rfl ?_
          refine xw_icmp_ge C 109 dX0_lowestTop_98 (by decide) (fun c98 => ?_) (fun c98 => ?_)
          · have h := px_t c98 h
            refine xw_perm [1, 2, 3, 4, 5, 6, 7] rfl ?_
            exact hJ109 _ ih _ _ _ _ _ _ h
          · have h := px_f c98 h
            refine xw_iload C dX0_lowestTop_101 7 rfl ?_
            refine xw_istore C dX0_lowestTop_103 (by decide) (lv' := [(6, .int v8), (9, .int q89), (0, .ref o), (1, .int v1), (2, .int v2), (5, .int v5), (7, .int v7), (8, .int v8)]) rfl ?_
            refine xw_iload C dX0_lowestTop_105 1 rfl ?_
            refine xw_istore C dX0_lowestTop_107 (by decide) (lv' := [(7, .int q89), (6, .int v8), (9, .int q89), (0, .ref o), (1, .int v1), (2, .int v2), (5, .int v5), (8, .int v8)]) rfl ?_
            refine xw_perm [3, 4, 5, 6, 1, 0, 7] rfl ?_
            exact hJ109 _ ih _ _ _ _ _ _ h
  have hJ49 : ∀ (v1 : Int32), ∀ (v2 : Int32), ∀ (v4 : Int32), ∀ (s0 : Int32), fX0_lowestTop_J49 v1 v2 v4 s0 x = some r → XW E p l e rmX0_lowestTop s m args below meth c Z A 0 0 (w0 E o ad x) 49 10 [(0, .ref o), (1, .int v1), (2, .int v2), (4, .int v4)] [.int s0] := by
    intro v1 v2 v4 s0 h
    rw [fX0_lowestTop_J49] at h
    refine xw_istore C dX0_lowestTop_49 (by decide) (lv' := [(5, .int s0), (0, .ref o), (1, .int v1), (2, .int v2), (4, .int v4)]) rfl ?_
    refine xw_iload C dX0_lowestTop_51 4 rfl ?_
    refine xw_istore C dX0_lowestTop_53 (by decide) (lv' := [(6, .int v4), (5, .int s0), (0, .ref o), (1, .int v1), (2, .int v2), (4, .int v4)]) rfl ?_
    refine xw_aload_n C dX0_lowestTop_55 rfl 2 rfl ?_
    refine xw_iload_n C dX0_lowestTop_56 rfl 3 rfl ?_
    refine xw_iload_n C dX0_lowestTop_57 rfl 4 rfl ?_
    refine xw_iload C dX0_lowestTop_58 5 rfl ?_
    obtain ⟨q60, eq60, h⟩ := px_b h
    refine xw_callVI (w' := w0 E o ad x) (u := []) (v := []) C (ok_X0_sumBelow (o := o) (ad := ad) (x := x) eq60) 3 gX0_lowestTop_X0_sumBelow rfl ⟨rfl, rfl⟩ (by decide +kernel) ⟨Nat.le_of_ble_eq_true rfl, Nat.le_of_ble_eq_true rfl⟩ 0 0 rfl rfl rfl (Nat.le_of_ble_eq_true rfl) ⟨Nat.zero_le _, Nat.zero_le _⟩ rfl xe0 xe0.symm dX0_lowestTop_60 ?_
    refine xw_istore C dX0_lowestTop_63 (by decide) (lv' := [(7, .int q60), (6, .int v4), (5, .int s0), (0, .ref o), (1, .int v1), (2, .int v2), (4, .int v4)]) rfl ?_
    refine xw_iload C dX0_lowestTop_65 6 rfl ?_
    refine xw_iconst C (1) dX0_lowestTop_67 (by decide) ?_
    refine xw_iadd C dX0_lowestTop_68 ?_
    refine xw_topi (fun b69 eb69 => ?_)
    have h := px_v h b69 eb69
    refine xw_istore C dX0_lowestTop_69 (by decide) (lv' := [(8, .int b69), (7, .int q60), (6, .int v4), (5, .int s0), (0, .ref o), (1, .int v1), (2, .int v2), (4, .int v4)]) rfl ?_
    refine xw_perm [4, 5, 6, 3, 2, 1, 0] rfl ?_
    exact hL71 _ _ _ _ _ _ _ h
  have hJ29 : ∀ (v1 : Int32), ∀ (v2 : Int32), ∀ (v3 : Int32), ∀ (s0 : Int32), fX0_lowestTop_J29 v1 v2 v3 s0 x = some r → XW E p l e rmX0_lowestTop s m args below meth c Z A 0 0 (w0 E o ad x) 29 10 [(0, .ref o), (1, .int v1), (2, .int v2), (3, .int v3)] [.int s0] := by
    intro v1 v2 v3 s0 h
    rw [fX0_lowestTop_J29] at h
    refine xw_istore C dX0_lowestTop_29 (by decide) (lv' := [(4, .int s0), (0, .ref o), (1, .int v1), (2, .int v2), (3, .int v3)]) rfl ?_
    refine xw_iload_n C dX0_lowestTop_31 rfl 4 rfl ?_
    refine xw_if_eq C 39 dX0_lowestTop_32 (by decide) (fun c32 => ?_) (fun c32 => ?_)
    · have h := px_t c32 h
      refine xw_aload_n C dX0_lowestTop_39 rfl 1 rfl ?_
      refine xw_get C in0 0 rfl rfl 4 (by decide) m24 rfl rfl dX0_lowestTop_40 ?_
      refine xw_iload_n C dX0_lowestTop_43 rfl 2 rfl ?_
      refine xw_iconst C (1) dX0_lowestTop_44 (by decide) ?_
      refine xw_iadd C dX0_lowestTop_45 ?_
      obtain ⟨q46, eq46, h⟩ := px_b h
      refine xw_callNI (w' := w0 E o ad x) (u := (w0 E o ad x).take 5) (v := (w0 E o ad x).drop 6) C (ok_X5_at (a := (ad 4)) (nn := 64) (f := (x.2 4)) eq46) 2 gX0_lowestTop_X5_at_n46 rfl ⟨rfl, rfl⟩ (by decide +kernel) (by decide +kernel) (by decide +kernel) (by decide +kernel) ⟨Nat.le_of_ble_eq_true rfl, Nat.le_of_ble_eq_true rfl⟩ rfl (Nat.le_of_ble_eq_true rfl) ⟨Nat.zero_le _, Nat.zero_le _⟩ rfl rfl (by rfl) dX0_lowestTop_46 ?_
      refine xw_perm [1, 2, 3, 0] rfl ?_
      exact hJ49 _ _ _ _ h
    · have h := px_f c32 h
      refine xw_iload_n C dX0_lowestTop_35 rfl 2 rfl ?_
      refine xw_goto C 49 dX0_lowestTop_36 (by decide) ?_
      refine xw_perm [1, 2, 3, 0] rfl ?_
      exact hJ49 _ _ _ _ h
  have hJ12 : ∀ (v1 : Int32), ∀ (v2 : Int32), ∀ (s0 : Int32), fX0_lowestTop_J12 v1 v2 s0 x = some r → XW E p l e rmX0_lowestTop s m args below meth c Z A 0 0 (w0 E o ad x) 12 10 [(0, .ref o), (1, .int v1), (2, .int v2)] [.int s0] := by
    intro v1 v2 s0 h
    rw [fX0_lowestTop_J12] at h
    refine xw_istore_n C dX0_lowestTop_12 rfl (by decide) (lv' := [(3, .int s0), (0, .ref o), (1, .int v1), (2, .int v2)]) rfl ?_
    refine xw_iload_n C dX0_lowestTop_13 rfl 0 rfl ?_
    refine xw_if_eq C 21 dX0_lowestTop_14 (by decide) (fun c14 => ?_) (fun c14 => ?_)
    · have h := px_t c14 h
      refine xw_aload_n C dX0_lowestTop_21 rfl 1 rfl ?_
      refine xw_get C in0 0 rfl rfl 4 (by decide) m24 rfl rfl dX0_lowestTop_22 ?_
      refine xw_iload_n C dX0_lowestTop_25 rfl 2 rfl ?_
      obtain ⟨q26, eq26, h⟩ := px_b h
      refine xw_callNI (w' := w0 E o ad x) (u := (w0 E o ad x).take 5) (v := (w0 E o ad x).drop 6) C (ok_X5_at (a := (ad 4)) (nn := 64) (f := (x.2 4)) eq26) 2 gX0_lowestTop_X5_at_n46 rfl ⟨rfl, rfl⟩ (by decide +kernel) (by decide +kernel) (by decide +kernel) (by decide +kernel) ⟨Nat.le_of_ble_eq_true rfl, Nat.le_of_ble_eq_true rfl⟩ rfl (Nat.le_of_ble_eq_true rfl) ⟨Nat.zero_le _, Nat.zero_le _⟩ rfl rfl (by rfl) dX0_lowestTop_26 ?_
      refine xw_perm [1, 2, 3, 0] rfl ?_
      exact hJ29 _ _ _ _ h
    · have h := px_f c14 h
      refine xw_iload_n C dX0_lowestTop_17 rfl 2 rfl ?_
      refine xw_goto C 29 dX0_lowestTop_18 (by decide) ?_
      refine xw_perm [1, 2, 3, 0] rfl ?_
      exact hJ29 _ _ _ _ h
  rw [fX0_lowestTop] at hf
  have h := hf
  refine xw_iload_n C dX0_lowestTop_0 rfl 2 rfl ?_
  refine xw_iload_n C dX0_lowestTop_1 rfl 1 rfl ?_
  refine xw_isub C dX0_lowestTop_2 ?_
  refine xw_iconst C (1) dX0_lowestTop_3 (by decide) ?_
  refine xw_icmp_ne C 11 dX0_lowestTop_4 (by decide) (fun c4 => ?_) (fun c4 => ?_)
  · have h := px_f c4 h
    refine xw_iconst C (0) dX0_lowestTop_11 (by decide) ?_
    exact hJ12 _ _ _ h
  · have h := px_t c4 h
    refine xw_iconst C (1) dX0_lowestTop_7 (by decide) ?_
    refine xw_goto C 12 dX0_lowestTop_8 (by decide) ?_
    exact hJ12 _ _ _ h
def fX0_settle (p1 : Int32) (p2 : Int32) (x : Ob) : Option (Ob) :=
  Option.bind (fX0_lowestTop p1 p2 x) (fun q3 =>
  Option.bind (fX5_at 65 p2 (x.2 2)) (fun q12 =>
  Option.bind (fX5_at 65 p1 (x.2 2)) (fun q20 =>
  px_let ((q12 - q20) : Int32) (fun b24 =>
  Option.bind (fX0_sumBelow p1 p2 q3 x) (fun q40 =>
  Option.bind (fX5_put 4225 ((p1 * (65)) + p2) (q40 + b24) (x.2 3)) (fun q46 =>
  px_let (ob_f x 3 q46) (fun x_46 =>
  Option.bind (fX5_put 64 p1 q3 (x_46.2 4)) (fun q55 =>
  px_let (ob_f x_46 4 q55) (fun x_55 =>
  some x_55)))))))))
abbrev rmX0_settle : Room := { frames := 3, cells := 0, slots := 0, locals := 73 }
set_option maxHeartbeats 4000000 in
set_option maxRecDepth 100000 in
theorem ok_X0_settle {l : Launch} {E : En} {o : Nat} {ad : (Nat → Nat)} {p1 : Int32} {p2 : Int32} {x : Ob} {r : Ob} (hf : fX0_settle p1 p2 x = some r) : CV l yX0_settle wsX0_settle (rmX0_settle) [.ref o, .int p1, .int p2] E (w0 E o ad x) (w0 E o ad r) := by
  refine xc_V (by decide) rfl (Nat.le_of_ble_eq_true rfl) [(0, .ref o), (1, .int p1), (2, .int p2)] rfl (fun p e s m below meth c A C hr => ?_)
  generalize ([.ref o, .int p1, .int p2] : List Value).toArray = args at C ⊢
  obtain ⟨Z, hZ⟩ : ∃ Z, Z = ZV E (w0 E o ad r) A below args s 0 0 := ⟨_, rfl⟩
  rw [← hZ]
  have in0 : ∀ w ∈ wsX00, w ∈ wsX0_settle := by decide +kernel
  have m18 : Cond.fieldLink RX0 18 "TurningTrees$BestStill" "asksBefore" "[I" ∈ wsX0_settle := by decide +kernel
  have m21 : Cond.fieldLink RX0 21 "TurningTrees$BestStill" "least" "[I" ∈ wsX0_settle := by decide +kernel
  have m24 : Cond.fieldLink RX0 24 "TurningTrees$BestStill" "tops" "[I" ∈ wsX0_settle := by decide +kernel
  rw [fX0_settle] at hf
  have h := hf
  refine xw_aload_n C dX0_settle_0 rfl 0 rfl ?_
  refine xw_iload_n C dX0_settle_1 rfl 1 rfl ?_
  refine xw_iload_n C dX0_settle_2 rfl 2 rfl ?_
  obtain ⟨q3, eq3, h⟩ := px_b h
  refine xw_callVI (w' := w0 E o ad x) (u := []) (v := []) C (ok_X0_lowestTop (o := o) (ad := ad) (x := x) eq3) 2 gX0_settle_X0_lowestTop rfl ⟨rfl, rfl⟩ (by decide +kernel) ⟨Nat.le_of_ble_eq_true rfl, Nat.le_of_ble_eq_true rfl⟩ 0 0 rfl rfl rfl (Nat.le_of_ble_eq_true rfl) ⟨Nat.zero_le _, Nat.zero_le _⟩ rfl xe0 xe0.symm dX0_settle_3 ?_
  refine xw_istore_n C dX0_settle_6 rfl (by decide) (lv' := [(3, .int q3), (0, .ref o), (1, .int p1), (2, .int p2)]) rfl ?_
  refine xw_aload_n C dX0_settle_7 rfl 1 rfl ?_
  refine xw_get C in0 0 rfl rfl 2 (by decide) m18 rfl rfl dX0_settle_8 ?_
  refine xw_iload_n C dX0_settle_11 rfl 3 rfl ?_
  obtain ⟨q12, eq12, h⟩ := px_b h
  refine xw_callNI (w' := w0 E o ad x) (u := (w0 E o ad x).take 3) (v := (w0 E o ad x).drop 4) C (ok_X5_at (a := (ad 2)) (nn := 65) (f := (x.2 2)) eq12) 2 gX0_settle_X5_at_n46 rfl ⟨rfl, rfl⟩ (by decide +kernel) (by decide +kernel) (by decide +kernel) (by decide +kernel) ⟨Nat.le_of_ble_eq_true rfl, Nat.le_of_ble_eq_true rfl⟩ rfl (Nat.le_of_ble_eq_true rfl) ⟨Nat.zero_le _, Nat.zero_le _⟩ rfl rfl (by rfl) dX0_settle_12 ?_
  refine xw_aload_n C dX0_settle_15 rfl 1 rfl ?_
  refine xw_get C in0 0 rfl rfl 2 (by decide) m18 rfl rfl dX0_settle_16 ?_
  refine xw_iload_n C dX0_settle_19 rfl 2 rfl ?_
  obtain ⟨q20, eq20, h⟩ := px_b h
  refine xw_callNI (w' := w0 E o ad x) (u := (w0 E o ad x).take 3) (v := (w0 E o ad x).drop 4) C (ok_X5_at (a := (ad 2)) (nn := 65) (f := (x.2 2)) eq20) 2 gX0_settle_X5_at_n46 rfl ⟨rfl, rfl⟩ (by decide +kernel) (by decide +kernel) (by decide +kernel) (by decide +kernel) ⟨Nat.le_of_ble_eq_true rfl, Nat.le_of_ble_eq_true rfl⟩ rfl (Nat.le_of_ble_eq_true rfl) ⟨Nat.zero_le _, Nat.zero_le _⟩ rfl rfl (by rfl) dX0_settle_20 ?_
  refine xw_isub C dX0_settle_23 ?_
  refine xw_topi (fun b24 eb24 => ?_)
  have h := px_v h b24 eb24
  refine xw_istore C dX0_settle_24 (by decide) (lv' := [(4, .int b24), (3, .int q3), (0, .ref o), (1, .int p1), (2, .int p2)]) rfl ?_
  refine xw_aload_n C dX0_settle_26 rfl 2 rfl ?_
  refine xw_get C in0 0 rfl rfl 3 (by decide) m21 rfl rfl dX0_settle_27 ?_
  refine xw_iload_n C dX0_settle_30 rfl 3 rfl ?_
  refine xw_bipush C (65) dX0_settle_31 (by decide) ?_
  refine xw_imul C dX0_settle_33 ?_
  refine xw_iload_n C dX0_settle_34 rfl 4 rfl ?_
  refine xw_iadd C dX0_settle_35 ?_
  refine xw_aload_n C dX0_settle_36 rfl 2 rfl ?_
  refine xw_iload_n C dX0_settle_37 rfl 3 rfl ?_
  refine xw_iload_n C dX0_settle_38 rfl 4 rfl ?_
  refine xw_iload_n C dX0_settle_39 rfl 1 rfl ?_
  obtain ⟨q40, eq40, h⟩ := px_b h
  refine xw_callVI (w' := w0 E o ad x) (u := []) (v := []) C (ok_X0_sumBelow (o := o) (ad := ad) (x := x) eq40) 3 gX0_settle_X0_sumBelow rfl ⟨rfl, rfl⟩ (by decide +kernel) ⟨Nat.le_of_ble_eq_true rfl, Nat.le_of_ble_eq_true rfl⟩ 0 0 rfl rfl rfl (Nat.le_of_ble_eq_true rfl) ⟨Nat.zero_le _, Nat.zero_le _⟩ rfl xe0 xe0.symm dX0_settle_40 ?_
  refine xw_iload C dX0_settle_43 0 rfl ?_
  refine xw_iadd C dX0_settle_45 ?_
  obtain ⟨q46, eq46, h⟩ := px_b h
  refine px_n h (fun x_46 ex_46 h => ?_)
  refine xw_callNV (w' := w0 E o ad x_46) (u := (w0 E o ad x).take 4) (v := (w0 E o ad x).drop 5) C (ok_X5_put (a := (ad 3)) (nn := 4225) (f := (x.2 3)) eq46) 3 gX0_settle_X5_put_n65 rfl ⟨rfl, rfl⟩ (by decide +kernel) (by decide +kernel) (by decide +kernel) (by decide +kernel) ⟨Nat.le_of_ble_eq_true rfl, Nat.le_of_ble_eq_true rfl⟩ rfl (Nat.le_of_ble_eq_true rfl) ⟨Nat.zero_le _, Nat.zero_le _⟩ rfl rfl (by rw [ex_46]; rfl) dX0_settle_46 ?_
  refine xw_aload_n C dX0_settle_49 rfl 2 rfl ?_
  refine xw_get C in0 0 rfl rfl 4 (by decide) m24 rfl rfl dX0_settle_50 ?_
  refine xw_iload_n C dX0_settle_53 rfl 3 rfl ?_
  refine xw_iload_n C dX0_settle_54 rfl 1 rfl ?_
  obtain ⟨q55, eq55, h⟩ := px_b h
  refine px_n h (fun x_55 ex_55 h => ?_)
  refine xw_callNV (w' := w0 E o ad x_55) (u := (w0 E o ad x_46).take 5) (v := (w0 E o ad x_46).drop 6) C (ok_X5_put (a := (ad 4)) (nn := 64) (f := (x_46.2 4)) eq55) 3 gX0_settle_X5_put_n65 rfl ⟨rfl, rfl⟩ (by decide +kernel) (by decide +kernel) (by decide +kernel) (by decide +kernel) ⟨Nat.le_of_ble_eq_true rfl, Nat.le_of_ble_eq_true rfl⟩ rfl (Nat.le_of_ble_eq_true rfl) ⟨Nat.zero_le _, Nat.zero_le _⟩ rfl rfl (by rw [ex_55]; rfl) dX0_settle_55 ?_
  cases h
  rw [hZ]
  exact xw_vret C hr dX0_settle_58
def fX0_workOut_J63 (k14 : Int32 → Int32 → Ob → Ob → Ob → Option (Ob)) (v3 : Int32) (v4 : Int32) (x1 : Ob) (x : Ob) (x2 : Ob) : Option (Ob) :=
  px_let (v4 + (1) : Int32) (fun b63 =>
  k14 v3 b63 x1 x x2)
def fX0_workOut_L30 (k14 : Int32 → Int32 → Ob → Ob → Ob → Option (Ob)) : Nat → Int32 → Int32 → Int32 → Ob → Ob → Ob → Option (Ob)
  | 0, _, _, _, _, _, _ => none
  | n + 1, v3, v4, v5, x1, x, x2 =>
  (if v3 < (v5 + v4) then
    fX0_workOut_J63 (k14) v3 v4 x1 x x2
  else
    (if (64) ≤ v5 then
      fX0_workOut_J63 (k14) v3 v4 x1 x x2
    else
      Option.bind (fX0_settle v5 (v5 + v4) x) (fun q54 =>
      px_let (v5 + (1) : Int32) (fun b57 =>
      fX0_workOut_L30 k14 n v3 v4 b57 x1 q54 x2))))
def fX0_workOut_J105 (s0 : Int32) (x1 : Ob) (x : Ob) (x2 : Ob) : Option (Ob) :=
  px_let (ob_i x 6 s0) (fun x_105 =>
  some x_105)
def fX0_workOut_J69 (v3 : Int32) (x1 : Ob) (x : Ob) (x2 : Ob) : Option (Ob) :=
  Option.bind (fX5_at 4225 v3 (x.2 3)) (fun q75 =>
  px_let (ob_i x 5 q75) (fun x_78 =>
  (if v3 = 0 then
    fX0_workOut_J105 (-1) x1 x_78 x2
  else
    Option.bind (fX5_at 64 (0) (x_78.2 4)) (fun q99 =>
    Option.bind (fX5_at 64 q99 (x_78.2 0)) (fun q102 =>
    fX0_workOut_J105 q102 x1 x_78 x2)))))
def fX0_workOut_L14 : Nat → Int32 → Int32 → Ob → Ob → Ob → Option (Ob)
  | 0, _, _, _, _, _ => none
  | n + 1, v3, v4, x1, x, x2 =>
  (if v3 < v4 then
    fX0_workOut_J69 v3 x1 x x2
  else
    (if (64) < v4 then
      fX0_workOut_J69 v3 x1 x x2
    else
      fX0_workOut_L30 (fX0_workOut_L14 n) FU v3 v4 (0) x1 x x2))
def fX0_workOut (x1 : Ob) (x : Ob) (x2 : Ob) : Option (Ob) :=
  Option.bind (fX0_countAsks x x2) (fun q2 =>
  Option.bind (fX0_gatherKeys x1 q2) (fun q7 =>
  px_let (q7.1 : Int32) (fun b10 =>
  fX0_workOut_L14 FU b10 (1) x1 q7.2 x2)))
abbrev rmX0_workOut : Room := { frames := 4, cells := 0, slots := 0, locals := 97 }
set_option maxHeartbeats 4000000 in
set_option maxRecDepth 100000 in
theorem ok_X0_workOut {l : Launch} {E : En} {o1 : Nat} {ad1 : (Nat → Nat)} {o : Nat} {ad : (Nat → Nat)} {o2 : Nat} {ad2 : (Nat → Nat)} {x1 : Ob} {x : Ob} {x2 : Ob} {r : Ob} (hf : fX0_workOut x1 x x2 = some r) : CV l yX0_workOut wsX0_workOut (rmX0_workOut) [.ref o, .ref o1, .ref o2] E (w3 E o1 ad1 x1 ++ w0 E o ad x ++ w2 E o2 ad2 x2) (w3 E o1 ad1 x1 ++ w0 E o ad r ++ w2 E o2 ad2 x2) := by
  refine xc_V (by decide) rfl (Nat.le_of_ble_eq_true rfl) [(0, .ref o), (1, .ref o1), (2, .ref o2)] rfl (fun p e s m below meth c A C hr => ?_)
  generalize ([.ref o, .ref o1, .ref o2] : List Value).toArray = args at C ⊢
  obtain ⟨Z, hZ⟩ : ∃ Z, Z = ZV E (w3 E o1 ad1 x1 ++ w0 E o ad r ++ w2 E o2 ad2 x2) A below args s 0 0 := ⟨_, rfl⟩
  rw [← hZ]
  have in0 : ∀ w ∈ wsX00, w ∈ wsX0_workOut := by decide +kernel
  have m9 : Cond.fieldLink RX0 9 "TurningTrees$BestStill" "keys" "[I" ∈ wsX0_workOut := by decide +kernel
  have m21 : Cond.fieldLink RX0 21 "TurningTrees$BestStill" "least" "[I" ∈ wsX0_workOut := by decide +kernel
  have m24 : Cond.fieldLink RX0 24 "TurningTrees$BestStill" "tops" "[I" ∈ wsX0_workOut := by decide +kernel
  have m27 : Cond.fieldLink RX0 27 "TurningTrees$BestStill" "sum" "I" ∈ wsX0_workOut := by decide +kernel
  have m31 : Cond.fieldLink RX0 31 "TurningTrees$BestStill" "root" "I" ∈ wsX0_workOut := by decide +kernel
  have hJ63 : ∀ (k14 : Int32 → Int32 → Ob → Ob → Ob → Option (Ob)), (∀ (v3 : Int32), ∀ (v4 : Int32), ∀ (x : Ob), k14 v3 v4 x1 x x2 = some r → XW E p l e rmX0_workOut s m args below meth c Z A 0 0 (w3 E o1 ad1 x1 ++ w0 E o ad x ++ w2 E o2 ad2 x2) 14 6 [(0, .ref o), (3, .int v3), (4, .int v4)] []) → ∀ (v3 : Int32), ∀ (v4 : Int32), ∀ (x : Ob), fX0_workOut_J63 k14 v3 v4 x1 x x2 = some r → XW E p l e rmX0_workOut s m args below meth c Z A 0 0 (w3 E o1 ad1 x1 ++ w0 E o ad x ++ w2 E o2 ad2 x2) 63 6 [(0, .ref o), (3, .int v3), (4, .int v4)] [] := by
    intro k14 hk14 v3 v4 x h
    rw [fX0_workOut_J63] at h
    refine px_n h (fun b63 eb63 h => ?_)
    refine xw_iinc (v := b63) C dX0_workOut_63 2 rfl eb63 (by decide) (lv' := [(4, .int b63), (0, .ref o), (3, .int v3)]) rfl ?_
    refine xw_goto C 14 dX0_workOut_66 (by decide) ?_
    refine xw_perm [1, 2, 0] rfl ?_
    exact hk14 _ _ _ h
  have hL30 : ∀ (k14 : Int32 → Int32 → Ob → Ob → Ob → Option (Ob)), (∀ (v3 : Int32), ∀ (v4 : Int32), ∀ (x : Ob), k14 v3 v4 x1 x x2 = some r → XW E p l e rmX0_workOut s m args below meth c Z A 0 0 (w3 E o1 ad1 x1 ++ w0 E o ad x ++ w2 E o2 ad2 x2) 14 6 [(0, .ref o), (3, .int v3), (4, .int v4)] []) → ∀ n : Nat, ∀ (v3 : Int32), ∀ (v4 : Int32), ∀ (v5 : Int32), ∀ (x : Ob), fX0_workOut_L30 k14 n v3 v4 v5 x1 x x2 = some r → XW E p l e rmX0_workOut s m args below meth c Z A 0 0 (w3 E o1 ad1 x1 ++ w0 E o ad x ++ w2 E o2 ad2 x2) 30 6 [(0, .ref o), (3, .int v3), (4, .int v4), (5, .int v5)] [] := by
    intro k14 hk14 n
    induction n with
    | zero =>
      intro v3 v4 v5 x h
      rw [fX0_workOut_L30] at h
      cases h
    | succ n ih =>
      intro v3 v4 v5 x h
      rw [fX0_workOut_L30] at h
      refine xw_iload C dX0_workOut_30 3 rfl ?_
      refine xw_iload C dX0_workOut_32 2 rfl ?_
      refine xw_iadd C dX0_workOut_34 ?_
      refine xw_iload_n C dX0_workOut_35 rfl 1 rfl ?_
      refine xw_icmp_gt C 63 dX0_workOut_36 (by decide) (fun c36 => ?_) (fun c36 => ?_)
      · have h := px_t c36 h
        refine xw_perm [0, 1, 2] rfl ?_
        exact hJ63 _ hk14 _ _ _ h
      · have h := px_f c36 h
        refine xw_iload C dX0_workOut_39 3 rfl ?_
        refine xw_bipush C (64) dX0_workOut_41 (by decide) ?_
        refine xw_icmp_ge C 63 dX0_workOut_43 (by decide) (fun c43 => ?_) (fun c43 => ?_)
        · have h := px_t c43 h
          refine xw_perm [0, 1, 2] rfl ?_
          exact hJ63 _ hk14 _ _ _ h
        · have h := px_f c43 h
          refine xw_aload_n C dX0_workOut_46 rfl 0 rfl ?_
          refine xw_iload C dX0_workOut_47 3 rfl ?_
          refine xw_iload C dX0_workOut_49 3 rfl ?_
          refine xw_iload C dX0_workOut_51 2 rfl ?_
          refine xw_iadd C dX0_workOut_53 ?_
          obtain ⟨q54, eq54, h⟩ := px_b h
          refine xw_callVV (w' := w3 E o1 ad1 x1 ++ w0 E o ad q54 ++ w2 E o2 ad2 x2) (u := (w3 E o1 ad1 x1 ++ w0 E o ad x ++ w2 E o2 ad2 x2).take 6) (v := (w3 E o1 ad1 x1 ++ w0 E o ad x ++ w2 E o2 ad2 x2).drop 12) C (ok_X0_settle (o := o) (ad := ad) (x := x) eq54) 2 gX0_workOut_X0_settle rfl ⟨rfl, rfl⟩ (by decide +kernel) ⟨Nat.le_of_ble_eq_true rfl, Nat.le_of_ble_eq_true rfl⟩ 0 0 rfl rfl rfl (Nat.le_of_ble_eq_true rfl) ⟨Nat.zero_le _, Nat.zero_le _⟩ rfl rfl (by rfl) dX0_workOut_54 ?_
          refine px_n h (fun b57 eb57 h => ?_)
          refine xw_iinc (v := b57) C dX0_workOut_57 3 rfl eb57 (by decide) (lv' := [(5, .int b57), (0, .ref o), (3, .int v3), (4, .int v4)]) rfl ?_
          refine xw_goto C 30 dX0_workOut_60 (by decide) ?_
          refine xw_perm [1, 2, 3, 0] rfl ?_
          exact ih _ _ _ _ h
  have hJ105 : ∀ (s0 : Int32), ∀ (x : Ob), fX0_workOut_J105 s0 x1 x x2 = some r → XW E p l e rmX0_workOut s m args below meth c Z A 0 0 (w3 E o1 ad1 x1 ++ w0 E o ad x ++ w2 E o2 ad2 x2) 105 6 [] [.int s0, .ref o] := by
    intro s0 x h
    rw [fX0_workOut_J105] at h
    refine px_n h (fun x_105 ex_105 h => ?_)
    refine xw_put (w' := w3 E o1 ad1 x1 ++ w0 E o ad x_105 ++ w2 E o2 ad2 x2) C in0 tyX0 tyX0_ok nmX0 6 rfl rfl 6 (by decide) m31 rfl rfl rfl (Nat.le_of_ble_eq_true rfl) (by rw [ex_105]; rfl) dX0_workOut_105 ?_
    cases h
    rw [hZ]
    exact xw_vret C hr dX0_workOut_108
  have hJ69 : ∀ (v3 : Int32), ∀ (x : Ob), fX0_workOut_J69 v3 x1 x x2 = some r → XW E p l e rmX0_workOut s m args below meth c Z A 0 0 (w3 E o1 ad1 x1 ++ w0 E o ad x ++ w2 E o2 ad2 x2) 69 6 [(0, .ref o), (3, .int v3)] [] := by
    intro v3 x h
    rw [fX0_workOut_J69] at h
    refine xw_aload_n C dX0_workOut_69 rfl 0 rfl ?_
    refine xw_aload_n C dX0_workOut_70 rfl 0 rfl ?_
    refine xw_get C in0 6 rfl rfl 3 (by decide) m21 rfl rfl dX0_workOut_71 ?_
    refine xw_iload_n C dX0_workOut_74 rfl 1 rfl ?_
    obtain ⟨q75, eq75, h⟩ := px_b h
    refine xw_callNI (w' := w3 E o1 ad1 x1 ++ w0 E o ad x ++ w2 E o2 ad2 x2) (u := (w3 E o1 ad1 x1 ++ w0 E o ad x ++ w2 E o2 ad2 x2).take 10) (v := (w3 E o1 ad1 x1 ++ w0 E o ad x ++ w2 E o2 ad2 x2).drop 11) C (ok_X5_at (a := (ad 3)) (nn := 4225) (f := (x.2 3)) eq75) 2 gX0_workOut_X5_at_n46 rfl ⟨rfl, rfl⟩ (by decide +kernel) (by decide +kernel) (by decide +kernel) (by decide +kernel) ⟨Nat.le_of_ble_eq_true rfl, Nat.le_of_ble_eq_true rfl⟩ rfl (Nat.le_of_ble_eq_true rfl) ⟨Nat.zero_le _, Nat.zero_le _⟩ rfl rfl (by rfl) dX0_workOut_75 ?_
    refine px_n h (fun x_78 ex_78 h => ?_)
    refine xw_put (w' := w3 E o1 ad1 x1 ++ w0 E o ad x_78 ++ w2 E o2 ad2 x2) C in0 tyX0 tyX0_ok nmX0 6 rfl rfl 5 (by decide) m27 rfl rfl rfl (Nat.le_of_ble_eq_true rfl) (by rw [ex_78]; rfl) dX0_workOut_78 ?_
    refine xw_aload_n C dX0_workOut_81 rfl 0 rfl ?_
    refine xw_iload_n C dX0_workOut_82 rfl 1 rfl ?_
    refine xw_if_ne C 90 dX0_workOut_83 (by decide) (fun c83 => ?_) (fun c83 => ?_)
    · have h := px_f c83 h
      refine xw_aload_n C dX0_workOut_90 rfl 0 rfl ?_
      refine xw_get C in0 6 rfl rfl 0 (by decide) m9 rfl rfl dX0_workOut_91 ?_
      refine xw_aload_n C dX0_workOut_94 rfl 0 rfl ?_
      refine xw_get C in0 6 rfl rfl 4 (by decide) m24 rfl rfl dX0_workOut_95 ?_
      refine xw_iconst C (0) dX0_workOut_98 (by decide) ?_
      obtain ⟨q99, eq99, h⟩ := px_b h
      refine xw_callNI (w' := w3 E o1 ad1 x1 ++ w0 E o ad x_78 ++ w2 E o2 ad2 x2) (u := (w3 E o1 ad1 x1 ++ w0 E o ad x_78 ++ w2 E o2 ad2 x2).take 11) (v := (w3 E o1 ad1 x1 ++ w0 E o ad x_78 ++ w2 E o2 ad2 x2).drop 12) C (ok_X5_at (a := (ad 4)) (nn := 64) (f := (x_78.2 4)) eq99) 2 gX0_workOut_X5_at_n46 rfl ⟨rfl, rfl⟩ (by decide +kernel) (by decide +kernel) (by decide +kernel) (by decide +kernel) ⟨Nat.le_of_ble_eq_true rfl, Nat.le_of_ble_eq_true rfl⟩ rfl (Nat.le_of_ble_eq_true rfl) ⟨Nat.zero_le _, Nat.zero_le _⟩ rfl rfl (by rfl) dX0_workOut_99 ?_
      obtain ⟨q102, eq102, h⟩ := px_b h
      refine xw_callNI (w' := w3 E o1 ad1 x1 ++ w0 E o ad x_78 ++ w2 E o2 ad2 x2) (u := (w3 E o1 ad1 x1 ++ w0 E o ad x_78 ++ w2 E o2 ad2 x2).take 7) (v := (w3 E o1 ad1 x1 ++ w0 E o ad x_78 ++ w2 E o2 ad2 x2).drop 8) C (ok_X5_at (a := (ad 0)) (nn := 64) (f := (x_78.2 0)) eq102) 2 gX0_workOut_X5_at_n46 rfl ⟨rfl, rfl⟩ (by decide +kernel) (by decide +kernel) (by decide +kernel) (by decide +kernel) ⟨Nat.le_of_ble_eq_true rfl, Nat.le_of_ble_eq_true rfl⟩ rfl (Nat.le_of_ble_eq_true rfl) ⟨Nat.zero_le _, Nat.zero_le _⟩ rfl rfl (by rfl) dX0_workOut_102 ?_
      refine xw_perm [] rfl ?_
      exact hJ105 _ _ h
    · have h := px_t c83 h
      refine xw_iconst C (-1) dX0_workOut_86 (by decide) ?_
      refine xw_goto C 105 dX0_workOut_87 (by decide) ?_
      refine xw_perm [] rfl ?_
      exact hJ105 _ _ h
  have hL14 : ∀ n : Nat, ∀ (v3 : Int32), ∀ (v4 : Int32), ∀ (x : Ob), fX0_workOut_L14 n v3 v4 x1 x x2 = some r → XW E p l e rmX0_workOut s m args below meth c Z A 0 0 (w3 E o1 ad1 x1 ++ w0 E o ad x ++ w2 E o2 ad2 x2) 14 6 [(0, .ref o), (3, .int v3), (4, .int v4)] [] := by
    intro n
    induction n with
    | zero =>
      intro v3 v4 x h
      rw [fX0_workOut_L14] at h
      cases h
    | succ n ih =>
      intro v3 v4 x h
      rw [fX0_workOut_L14] at h
      refine xw_iload C dX0_workOut_14 2 rfl ?_
      refine xw_iload_n C dX0_workOut_16 rfl 1 rfl ?_
      refine xw_icmp_gt C 69 dX0_workOut_17 (by decide) (fun c17 => ?_) (fun c17 => ?_)
      · have h := px_t c17 h
        refine xw_perm [0, 1] rfl ?_
        exact hJ69 _ _ h
      · have h := px_f c17 h
        refine xw_iload C dX0_workOut_20 2 rfl ?_
        refine xw_bipush C (64) dX0_workOut_22 (by decide) ?_
        refine xw_icmp_gt C 69 dX0_workOut_24 (by decide) (fun c24 => ?_) (fun c24 => ?_)
        · have h := px_t c24 h
          refine xw_perm [0, 1] rfl ?_
          exact hJ69 _ _ h
        · have h := px_f c24 h
          refine xw_iconst C (0) dX0_workOut_27 (by decide) ?_
          refine xw_istore C dX0_workOut_28 (by decide) (lv' := [(5, .int (0)), (0, .ref o), (3, .int v3), (4, .int v4)]) rfl ?_
          refine xw_perm [1, 2, 3, 0] rfl ?_
          exact hL30 _ ih _ _ _ _ _ h
  rw [fX0_workOut] at hf
  have h := hf
  refine xw_aload_n C dX0_workOut_0 rfl 0 rfl ?_
  refine xw_aload_n C dX0_workOut_1 rfl 2 rfl ?_
  obtain ⟨q2, eq2, h⟩ := px_b h
  refine xw_callVV (w' := w3 E o1 ad1 x1 ++ w0 E o ad q2 ++ w2 E o2 ad2 x2) (u := (w3 E o1 ad1 x1 ++ w0 E o ad x ++ w2 E o2 ad2 x2).take 6) (v := (w3 E o1 ad1 x1 ++ w0 E o ad x ++ w2 E o2 ad2 x2).drop 14) C (ok_X0_countAsks (o := o) (ad := ad) (o1 := o2) (ad1 := ad2) (x := x) (x1 := x2) eq2) 1 gX0_workOut_X0_countAsks rfl ⟨rfl, rfl⟩ (by decide +kernel) ⟨Nat.le_of_ble_eq_true rfl, Nat.le_of_ble_eq_true rfl⟩ 0 0 rfl rfl rfl (Nat.le_of_ble_eq_true rfl) ⟨Nat.zero_le _, Nat.zero_le _⟩ rfl rfl (by rfl) dX0_workOut_2 ?_
  refine xw_aload_n C dX0_workOut_5 rfl 0 rfl ?_
  refine xw_aload_n C dX0_workOut_6 rfl 1 rfl ?_
  obtain ⟨q7, eq7, h⟩ := px_b h
  refine xw_callVI (w' := w3 E o1 ad1 x1 ++ w0 E o ad q7.2 ++ w2 E o2 ad2 x2) (u := (w3 E o1 ad1 x1 ++ w0 E o ad q2 ++ w2 E o2 ad2 x2).take 0) (v := (w3 E o1 ad1 x1 ++ w0 E o ad q2 ++ w2 E o2 ad2 x2).drop 12) C (ok_X0_gatherKeys (o1 := o1) (ad1 := ad1) (o := o) (ad := ad) (x1 := x1) (x := q2) eq7) 1 gX0_workOut_X0_gatherKeys rfl ⟨rfl, rfl⟩ (by decide +kernel) ⟨Nat.le_of_ble_eq_true rfl, Nat.le_of_ble_eq_true rfl⟩ 6 0 rfl rfl rfl (Nat.le_of_ble_eq_true rfl) ⟨Nat.zero_le _, Nat.zero_le _⟩ rfl rfl (by rfl) dX0_workOut_7 ?_
  refine xw_topi (fun b10 eb10 => ?_)
  have h := px_v h b10 eb10
  refine xw_istore_n C dX0_workOut_10 rfl (by decide) (lv' := [(3, .int b10), (0, .ref o), (1, .ref o1), (2, .ref o2)]) rfl ?_
  refine xw_iconst C (1) dX0_workOut_11 (by decide) ?_
  refine xw_istore C dX0_workOut_12 (by decide) (lv' := [(4, .int (1)), (3, .int b10), (0, .ref o), (1, .ref o1), (2, .ref o2)]) rfl ?_
  refine xw_perm [2, 1, 0] rfl ?_
  exact hL14 _ _ _ _ h
def fX1_take (p1 : Int32) (p2 : Int32) (x : Ob) : Option (Ob) :=
  (if p1 = (-1) then
    some x
  else
    (if p2 ≤ (x.1 1) then
      some x
    else
      Option.bind (fX5_put 16 (x.1 1) p1 (x.2 0)) (fun q22 =>
      px_let (ob_f x 0 q22) (fun x_22 =>
      px_let (ob_i x_22 1 ((x_22.1 1) + (1))) (fun x_32 =>
      some x_32)))))
abbrev rmX1_take : Room := { frames := 1, cells := 0, slots := 0, locals := 22 }
set_option maxHeartbeats 4000000 in
set_option maxRecDepth 100000 in
theorem ok_X1_take {l : Launch} {E : En} {o : Nat} {ad : (Nat → Nat)} {p1 : Int32} {p2 : Int32} {x : Ob} {r : Ob} (hf : fX1_take p1 p2 x = some r) : CV l yX1_take wsX1_take (rmX1_take) [.ref o, .int p1, .int p2] E (w1 E o ad x) (w1 E o ad r) := by
  refine xc_V (by decide) rfl (Nat.le_of_ble_eq_true rfl) [(0, .ref o), (1, .int p1), (2, .int p2)] rfl (fun p e s m below meth c A C hr => ?_)
  generalize ([.ref o, .int p1, .int p2] : List Value).toArray = args at C ⊢
  obtain ⟨Z, hZ⟩ : ∃ Z, Z = ZV E (w1 E o ad r) A below args s 0 0 := ⟨_, rfl⟩
  rw [← hZ]
  have in1 : ∀ w ∈ wsX10, w ∈ wsX1_take := by decide +kernel
  have m9 : Cond.fieldLink RX1 9 "TurningTrees$Page" "keys" "[I" ∈ wsX1_take := by decide +kernel
  have m15 : Cond.fieldLink RX1 15 "TurningTrees$Page" "filled" "I" ∈ wsX1_take := by decide +kernel
  rw [fX1_take] at hf
  have h := hf
  refine xw_iload_n C dX1_take_0 rfl 1 rfl ?_
  refine xw_iconst C (-1) dX1_take_1 (by decide) ?_
  refine xw_icmp_eq C 35 dX1_take_2 (by decide) (fun c2 => ?_) (fun c2 => ?_)
  · have h := px_t c2 h
    cases h
    rw [hZ]
    exact xw_vret C hr dX1_take_35
  · have h := px_f c2 h
    refine xw_aload_n C dX1_take_5 rfl 0 rfl ?_
    refine xw_get C in1 0 rfl rfl 1 (by decide) m15 rfl rfl dX1_take_6 ?_
    refine xw_iload_n C dX1_take_9 rfl 2 rfl ?_
    refine xw_icmp_ge C 35 dX1_take_10 (by decide) (fun c10 => ?_) (fun c10 => ?_)
    · have h := px_t c10 h
      cases h
      rw [hZ]
      exact xw_vret C hr dX1_take_35
    · have h := px_f c10 h
      refine xw_aload_n C dX1_take_13 rfl 0 rfl ?_
      refine xw_get C in1 0 rfl rfl 0 (by decide) m9 rfl rfl dX1_take_14 ?_
      refine xw_aload_n C dX1_take_17 rfl 0 rfl ?_
      refine xw_get C in1 0 rfl rfl 1 (by decide) m15 rfl rfl dX1_take_18 ?_
      refine xw_iload_n C dX1_take_21 rfl 1 rfl ?_
      obtain ⟨q22, eq22, h⟩ := px_b h
      refine px_n h (fun x_22 ex_22 h => ?_)
      refine xw_callNV (w' := w1 E o ad x_22) (u := (w1 E o ad x).take 1) (v := (w1 E o ad x).drop 2) C (ok_X5_put (a := (ad 0)) (nn := 16) (f := (x.2 0)) eq22) 3 gX1_take_X5_put_n51 rfl ⟨rfl, rfl⟩ (by decide +kernel) (by decide +kernel) (by decide +kernel) (by decide +kernel) ⟨Nat.le_of_ble_eq_true rfl, Nat.le_of_ble_eq_true rfl⟩ rfl (Nat.le_of_ble_eq_true rfl) ⟨Nat.zero_le _, Nat.zero_le _⟩ rfl rfl (by rw [ex_22]; rfl) dX1_take_22 ?_
      refine xw_aload_n C dX1_take_25 rfl 0 rfl ?_
      refine xw_dup C dX1_take_26 rfl ?_
      refine xw_get C in1 0 rfl rfl 1 (by decide) m15 rfl rfl dX1_take_27 ?_
      refine xw_iconst C (1) dX1_take_30 (by decide) ?_
      refine xw_iadd C dX1_take_31 ?_
      refine px_n h (fun x_32 ex_32 h => ?_)
      refine xw_put (w' := w1 E o ad x_32) C in1 tyX1 tyX1_ok nmX1 0 rfl rfl 1 (by decide) m15 rfl rfl rfl (Nat.le_of_ble_eq_true rfl) (by rw [ex_32]; rfl) dX1_take_32 ?_
      cases h
      rw [hZ]
      exact xw_vret C hr dX1_take_35
def fX3_leftOf (p1 : Int32) (x : Ob) : Option (Int32) :=
  Option.bind (fX5_at 64 p1 (x.2 0)) (fun q5 =>
  some q5)
abbrev rmX3_leftOf : Room := { frames := 1, cells := 0, slots := 0, locals := 21 }
set_option maxHeartbeats 4000000 in
set_option maxRecDepth 100000 in
theorem ok_X3_leftOf {l : Launch} {E : En} {o : Nat} {ad : (Nat → Nat)} {p1 : Int32} {x : Ob} {r : Int32} (hf : fX3_leftOf p1 x = some r) : CI l yX3_leftOf wsX3_leftOf (rmX3_leftOf) [.ref o, .int p1] E (w3 E o ad x) (w3 E o ad x) (r) := by
  refine xc_I (by decide) rfl (Nat.le_of_ble_eq_true rfl) [(0, .ref o), (1, .int p1)] rfl (fun p e s m below meth c A C hr => ?_)
  generalize ([.ref o, .int p1] : List Value).toArray = args at C ⊢
  obtain ⟨Z, hZ⟩ : ∃ Z, Z = ZI E (w3 E o ad x) (r) A below args s 0 0 := ⟨_, rfl⟩
  rw [← hZ]
  have in3 : ∀ w ∈ wsX30, w ∈ wsX3_leftOf := by decide +kernel
  have m9 : Cond.fieldLink RX3 9 "TurningTrees$Shape" "left" "[I" ∈ wsX3_leftOf := by decide +kernel
  rw [fX3_leftOf] at hf
  have h := hf
  refine xw_aload_n C dX3_leftOf_0 rfl 0 rfl ?_
  refine xw_get C in3 0 rfl rfl 0 (by decide) m9 rfl rfl dX3_leftOf_1 ?_
  refine xw_iload_n C dX3_leftOf_4 rfl 1 rfl ?_
  obtain ⟨q5, eq5, h⟩ := px_b h
  refine xw_callNI (w' := w3 E o ad x) (u := (w3 E o ad x).take 1) (v := (w3 E o ad x).drop 2) C (ok_X5_at (a := (ad 0)) (nn := 64) (f := (x.2 0)) eq5) 2 gX3_leftOf_X5_at_n40 rfl ⟨rfl, rfl⟩ (by decide +kernel) (by decide +kernel) (by decide +kernel) (by decide +kernel) ⟨Nat.le_of_ble_eq_true rfl, Nat.le_of_ble_eq_true rfl⟩ rfl (Nat.le_of_ble_eq_true rfl) ⟨Nat.zero_le _, Nat.zero_le _⟩ rfl rfl (by rfl) dX3_leftOf_5 ?_
  cases h
  rw [hZ]
  exact xw_iret C hr dX3_leftOf_8
def fX3_rightOf (p1 : Int32) (x : Ob) : Option (Int32) :=
  Option.bind (fX5_at 64 p1 (x.2 1)) (fun q5 =>
  some q5)
abbrev rmX3_rightOf : Room := { frames := 1, cells := 0, slots := 0, locals := 21 }
set_option maxHeartbeats 4000000 in
set_option maxRecDepth 100000 in
theorem ok_X3_rightOf {l : Launch} {E : En} {o : Nat} {ad : (Nat → Nat)} {p1 : Int32} {x : Ob} {r : Int32} (hf : fX3_rightOf p1 x = some r) : CI l yX3_rightOf wsX3_rightOf (rmX3_rightOf) [.ref o, .int p1] E (w3 E o ad x) (w3 E o ad x) (r) := by
  refine xc_I (by decide) rfl (Nat.le_of_ble_eq_true rfl) [(0, .ref o), (1, .int p1)] rfl (fun p e s m below meth c A C hr => ?_)
  generalize ([.ref o, .int p1] : List Value).toArray = args at C ⊢
  obtain ⟨Z, hZ⟩ : ∃ Z, Z = ZI E (w3 E o ad x) (r) A below args s 0 0 := ⟨_, rfl⟩
  rw [← hZ]
  have in3 : ∀ w ∈ wsX30, w ∈ wsX3_rightOf := by decide +kernel
  have m15 : Cond.fieldLink RX3 15 "TurningTrees$Shape" "right" "[I" ∈ wsX3_rightOf := by decide +kernel
  rw [fX3_rightOf] at hf
  have h := hf
  refine xw_aload_n C dX3_rightOf_0 rfl 0 rfl ?_
  refine xw_get C in3 0 rfl rfl 1 (by decide) m15 rfl rfl dX3_rightOf_1 ?_
  refine xw_iload_n C dX3_rightOf_4 rfl 1 rfl ?_
  obtain ⟨q5, eq5, h⟩ := px_b h
  refine xw_callNI (w' := w3 E o ad x) (u := (w3 E o ad x).take 2) (v := (w3 E o ad x).drop 3) C (ok_X5_at (a := (ad 1)) (nn := 64) (f := (x.2 1)) eq5) 2 gX3_rightOf_X5_at_n40 rfl ⟨rfl, rfl⟩ (by decide +kernel) (by decide +kernel) (by decide +kernel) (by decide +kernel) ⟨Nat.le_of_ble_eq_true rfl, Nat.le_of_ble_eq_true rfl⟩ rfl (Nat.le_of_ble_eq_true rfl) ⟨Nat.zero_le _, Nat.zero_le _⟩ rfl rfl (by rfl) dX3_rightOf_5 ?_
  cases h
  rw [hZ]
  exact xw_iret C hr dX3_rightOf_8
def fX1_fill_L14 : Nat → Int32 → Int32 → Ob → Ob → Option (Ob)
  | 0, _, _, _, _ => none
  | n + 1, v2, v4, x, x1 =>
  (if (x.1 1) ≤ v4 then
    some x
  else
    (if (16) ≤ v4 then
      some x
    else
      Option.bind (fX5_at 16 v4 (x.2 0)) (fun q38 =>
      Option.bind (fX3_leftOf q38 x1) (fun q41 =>
      Option.bind (fX1_take q41 v2 x) (fun q45 =>
      Option.bind (fX5_at 16 v4 (q45.2 0)) (fun q56 =>
      Option.bind (fX3_rightOf q56 x1) (fun q59 =>
      Option.bind (fX1_take q59 v2 q45) (fun q63 =>
      px_let (v4 + (1) : Int32) (fun b66 =>
      fX1_fill_L14 n v2 b66 q63 x1)))))))))
def fX1_fill (p2 : Int32) (p3 : Int32) (x : Ob) (x1 : Ob) : Option (Ob) :=
  px_let (ob_i x 1 (0)) (fun x_2 =>
  Option.bind (fX1_take p3 p2 x_2) (fun q8 =>
  fX1_fill_L14 FU p2 (0) q8 x1))
abbrev rmX1_fill : Room := { frames := 2, cells := 0, slots := 0, locals := 44 }
set_option maxHeartbeats 4000000 in
set_option maxRecDepth 100000 in
theorem ok_X1_fill {l : Launch} {E : En} {o : Nat} {ad : (Nat → Nat)} {o1 : Nat} {ad1 : (Nat → Nat)} {p2 : Int32} {p3 : Int32} {x : Ob} {x1 : Ob} {r : Ob} (hf : fX1_fill p2 p3 x x1 = some r) : CV l yX1_fill wsX1_fill (rmX1_fill) [.ref o, .ref o1, .int p2, .int p3] E (w1 E o ad x ++ w3 E o1 ad1 x1) (w1 E o ad r ++ w3 E o1 ad1 x1) := by
  refine xc_V (by decide) rfl (Nat.le_of_ble_eq_true rfl) [(0, .ref o), (1, .ref o1), (2, .int p2), (3, .int p3)] rfl (fun p e s m below meth c A C hr => ?_)
  generalize ([.ref o, .ref o1, .int p2, .int p3] : List Value).toArray = args at C ⊢
  obtain ⟨Z, hZ⟩ : ∃ Z, Z = ZV E (w1 E o ad r ++ w3 E o1 ad1 x1) A below args s 0 0 := ⟨_, rfl⟩
  rw [← hZ]
  have in1 : ∀ w ∈ wsX10, w ∈ wsX1_fill := by decide +kernel
  have m9 : Cond.fieldLink RX1 9 "TurningTrees$Page" "keys" "[I" ∈ wsX1_fill := by decide +kernel
  have m15 : Cond.fieldLink RX1 15 "TurningTrees$Page" "filled" "I" ∈ wsX1_fill := by decide +kernel
  have hL14 : ∀ n : Nat, ∀ (v2 : Int32), ∀ (v4 : Int32), ∀ (x : Ob), fX1_fill_L14 n v2 v4 x x1 = some r → XW E p l e rmX1_fill s m args below meth c Z A 0 0 (w1 E o ad x ++ w3 E o1 ad1 x1) 14 5 [(0, .ref o), (1, .ref o1), (2, .int v2), (4, .int v4)] [] := by
    intro n
    induction n with
    | zero =>
      intro v2 v4 x h
      rw [fX1_fill_L14] at h
      cases h
    | succ n ih =>
      intro v2 v4 x h
      rw [fX1_fill_L14] at h
      refine xw_iload C dX1_fill_14 3 rfl ?_
      refine xw_aload_n C dX1_fill_16 rfl 0 rfl ?_
      refine xw_get C in1 0 rfl rfl 1 (by decide) m15 rfl rfl dX1_fill_17 ?_
      refine xw_icmp_ge C 72 dX1_fill_20 (by decide) (fun c20 => ?_) (fun c20 => ?_)
      · have h := px_t c20 h
        cases h
        rw [hZ]
        exact xw_vret C hr dX1_fill_72
      · have h := px_f c20 h
        refine xw_iload C dX1_fill_23 3 rfl ?_
        refine xw_bipush C (16) dX1_fill_25 (by decide) ?_
        refine xw_icmp_ge C 72 dX1_fill_27 (by decide) (fun c27 => ?_) (fun c27 => ?_)
        · have h := px_t c27 h
          cases h
          rw [hZ]
          exact xw_vret C hr dX1_fill_72
        · have h := px_f c27 h
          refine xw_aload_n C dX1_fill_30 rfl 0 rfl ?_
          refine xw_aload_n C dX1_fill_31 rfl 1 rfl ?_
          refine xw_aload_n C dX1_fill_32 rfl 0 rfl ?_
          refine xw_get C in1 0 rfl rfl 0 (by decide) m9 rfl rfl dX1_fill_33 ?_
          refine xw_iload C dX1_fill_36 3 rfl ?_
          obtain ⟨q38, eq38, h⟩ := px_b h
          refine xw_callNI (w' := w1 E o ad x ++ w3 E o1 ad1 x1) (u := (w1 E o ad x ++ w3 E o1 ad1 x1).take 1) (v := (w1 E o ad x ++ w3 E o1 ad1 x1).drop 2) C (ok_X5_at (a := (ad 0)) (nn := 16) (f := (x.2 0)) eq38) 2 gX1_fill_X5_at_n40 rfl ⟨rfl, rfl⟩ (by decide +kernel) (by decide +kernel) (by decide +kernel) (by decide +kernel) ⟨Nat.le_of_ble_eq_true rfl, Nat.le_of_ble_eq_true rfl⟩ rfl (Nat.le_of_ble_eq_true rfl) ⟨Nat.zero_le _, Nat.zero_le _⟩ rfl rfl (by rfl) dX1_fill_38 ?_
          obtain ⟨q41, eq41, h⟩ := px_b h
          refine xw_callVI (w' := w1 E o ad x ++ w3 E o1 ad1 x1) (u := (w1 E o ad x ++ w3 E o1 ad1 x1).take 2) (v := (w1 E o ad x ++ w3 E o1 ad1 x1).drop 8) C (ok_X3_leftOf (o := o1) (ad := ad1) (x := x1) eq41) 1 gX1_fill_X3_leftOf rfl ⟨rfl, rfl⟩ (by decide +kernel) ⟨Nat.le_of_ble_eq_true rfl, Nat.le_of_ble_eq_true rfl⟩ 0 3 rfl rfl rfl (Nat.le_of_ble_eq_true rfl) ⟨Nat.zero_le _, Nat.zero_le _⟩ rfl rfl (by rfl) dX1_fill_41 ?_
          refine xw_iload_n C dX1_fill_44 rfl 2 rfl ?_
          obtain ⟨q45, eq45, h⟩ := px_b h
          refine xw_callVV (w' := w1 E o ad q45 ++ w3 E o1 ad1 x1) (u := (w1 E o ad x ++ w3 E o1 ad1 x1).take 0) (v := (w1 E o ad x ++ w3 E o1 ad1 x1).drop 2) C (ok_X1_take (o := o) (ad := ad) (x := x) eq45) 2 gX1_fill_X1_take rfl ⟨rfl, rfl⟩ (by decide +kernel) ⟨Nat.le_of_ble_eq_true rfl, Nat.le_of_ble_eq_true rfl⟩ 0 1 rfl rfl rfl (Nat.le_of_ble_eq_true rfl) ⟨Nat.zero_le _, Nat.zero_le _⟩ rfl rfl (by rfl) dX1_fill_45 ?_
          refine xw_aload_n C dX1_fill_48 rfl 0 rfl ?_
          refine xw_aload_n C dX1_fill_49 rfl 1 rfl ?_
          refine xw_aload_n C dX1_fill_50 rfl 0 rfl ?_
          refine xw_get C in1 0 rfl rfl 0 (by decide) m9 rfl rfl dX1_fill_51 ?_
          refine xw_iload C dX1_fill_54 3 rfl ?_
          obtain ⟨q56, eq56, h⟩ := px_b h
          refine xw_callNI (w' := w1 E o ad q45 ++ w3 E o1 ad1 x1) (u := (w1 E o ad q45 ++ w3 E o1 ad1 x1).take 1) (v := (w1 E o ad q45 ++ w3 E o1 ad1 x1).drop 2) C (ok_X5_at (a := (ad 0)) (nn := 16) (f := (q45.2 0)) eq56) 2 gX1_fill_X5_at_n40 rfl ⟨rfl, rfl⟩ (by decide +kernel) (by decide +kernel) (by decide +kernel) (by decide +kernel) ⟨Nat.le_of_ble_eq_true rfl, Nat.le_of_ble_eq_true rfl⟩ rfl (Nat.le_of_ble_eq_true rfl) ⟨Nat.zero_le _, Nat.zero_le _⟩ rfl rfl (by rfl) dX1_fill_56 ?_
          obtain ⟨q59, eq59, h⟩ := px_b h
          refine xw_callVI (w' := w1 E o ad q45 ++ w3 E o1 ad1 x1) (u := (w1 E o ad q45 ++ w3 E o1 ad1 x1).take 2) (v := (w1 E o ad q45 ++ w3 E o1 ad1 x1).drop 8) C (ok_X3_rightOf (o := o1) (ad := ad1) (x := x1) eq59) 1 gX1_fill_X3_rightOf rfl ⟨rfl, rfl⟩ (by decide +kernel) ⟨Nat.le_of_ble_eq_true rfl, Nat.le_of_ble_eq_true rfl⟩ 0 3 rfl rfl rfl (Nat.le_of_ble_eq_true rfl) ⟨Nat.zero_le _, Nat.zero_le _⟩ rfl rfl (by rfl) dX1_fill_59 ?_
          refine xw_iload_n C dX1_fill_62 rfl 2 rfl ?_
          obtain ⟨q63, eq63, h⟩ := px_b h
          refine xw_callVV (w' := w1 E o ad q63 ++ w3 E o1 ad1 x1) (u := (w1 E o ad q45 ++ w3 E o1 ad1 x1).take 0) (v := (w1 E o ad q45 ++ w3 E o1 ad1 x1).drop 2) C (ok_X1_take (o := o) (ad := ad) (x := q45) eq63) 2 gX1_fill_X1_take rfl ⟨rfl, rfl⟩ (by decide +kernel) ⟨Nat.le_of_ble_eq_true rfl, Nat.le_of_ble_eq_true rfl⟩ 0 1 rfl rfl rfl (Nat.le_of_ble_eq_true rfl) ⟨Nat.zero_le _, Nat.zero_le _⟩ rfl rfl (by rfl) dX1_fill_63 ?_
          refine px_n h (fun b66 eb66 h => ?_)
          refine xw_iinc (v := b66) C dX1_fill_66 3 rfl eb66 (by decide) (lv' := [(4, .int b66), (0, .ref o), (1, .ref o1), (2, .int v2)]) rfl ?_
          refine xw_goto C 14 dX1_fill_69 (by decide) ?_
          refine xw_perm [1, 2, 3, 0] rfl ?_
          exact ih _ _ _ h
  rw [fX1_fill] at hf
  have h := hf
  refine xw_aload_n C dX1_fill_0 rfl 0 rfl ?_
  refine xw_iconst C (0) dX1_fill_1 (by decide) ?_
  refine px_n h (fun x_2 ex_2 h => ?_)
  refine xw_put (w' := w1 E o ad x_2 ++ w3 E o1 ad1 x1) C in1 tyX1 tyX1_ok nmX1 0 rfl rfl 1 (by decide) m15 rfl rfl rfl (Nat.le_of_ble_eq_true rfl) (by rw [ex_2]; rfl) dX1_fill_2 ?_
  refine xw_aload_n C dX1_fill_5 rfl 0 rfl ?_
  refine xw_iload_n C dX1_fill_6 rfl 3 rfl ?_
  refine xw_iload_n C dX1_fill_7 rfl 2 rfl ?_
  obtain ⟨q8, eq8, h⟩ := px_b h
  refine xw_callVV (w' := w1 E o ad q8 ++ w3 E o1 ad1 x1) (u := (w1 E o ad x_2 ++ w3 E o1 ad1 x1).take 0) (v := (w1 E o ad x_2 ++ w3 E o1 ad1 x1).drop 2) C (ok_X1_take (o := o) (ad := ad) (x := x_2) eq8) 2 gX1_fill_X1_take rfl ⟨rfl, rfl⟩ (by decide +kernel) ⟨Nat.le_of_ble_eq_true rfl, Nat.le_of_ble_eq_true rfl⟩ 0 1 rfl rfl rfl (Nat.le_of_ble_eq_true rfl) ⟨Nat.zero_le _, Nat.zero_le _⟩ rfl rfl (by rfl) dX1_fill_8 ?_
  refine xw_iconst C (0) dX1_fill_11 (by decide) ?_
  refine xw_istore C dX1_fill_12 (by decide) (lv' := [(4, .int (0)), (0, .ref o), (1, .ref o1), (2, .int p2), (3, .int p3)]) rfl ?_
  refine xw_perm [1, 2, 3, 0] rfl ?_
  exact hL14 _ _ _ _ h
def fX1_has_L2 : Nat → Int32 → Int32 → Ob → Option (Int32)
  | 0, _, _, _ => none
  | n + 1, v1, v2, x =>
  (if (x.1 1) ≤ v2 then
    some (0)
  else
    Option.bind (fX5_at 16 v2 (x.2 0)) (fun q15 =>
    (if q15 = v1 then
      some (1)
    else
      px_let (v2 + (1) : Int32) (fun b24 =>
      fX1_has_L2 n v1 b24 x))))
def fX1_has (p1 : Int32) (x : Ob) : Option (Int32) :=
  fX1_has_L2 FU p1 (0) x
abbrev rmX1_has : Room := { frames := 1, cells := 0, slots := 0, locals := 21 }
set_option maxHeartbeats 4000000 in
set_option maxRecDepth 100000 in
theorem ok_X1_has {l : Launch} {E : En} {o : Nat} {ad : (Nat → Nat)} {p1 : Int32} {x : Ob} {r : Int32} (hf : fX1_has p1 x = some r) : CI l yX1_has wsX1_has (rmX1_has) [.ref o, .int p1] E (w1 E o ad x) (w1 E o ad x) (r) := by
  refine xc_I (by decide) rfl (Nat.le_of_ble_eq_true rfl) [(0, .ref o), (1, .int p1)] rfl (fun p e s m below meth c A C hr => ?_)
  generalize ([.ref o, .int p1] : List Value).toArray = args at C ⊢
  obtain ⟨Z, hZ⟩ : ∃ Z, Z = ZI E (w1 E o ad x) (r) A below args s 0 0 := ⟨_, rfl⟩
  rw [← hZ]
  have in1 : ∀ w ∈ wsX10, w ∈ wsX1_has := by decide +kernel
  have m9 : Cond.fieldLink RX1 9 "TurningTrees$Page" "keys" "[I" ∈ wsX1_has := by decide +kernel
  have m15 : Cond.fieldLink RX1 15 "TurningTrees$Page" "filled" "I" ∈ wsX1_has := by decide +kernel
  have hL2 : ∀ n : Nat, ∀ (v1 : Int32), ∀ (v2 : Int32), fX1_has_L2 n v1 v2 x = some r → XW E p l e rmX1_has s m args below meth c Z A 0 0 (w1 E o ad x) 2 3 [(0, .ref o), (1, .int v1), (2, .int v2)] [] := by
    intro n
    induction n with
    | zero =>
      intro v1 v2 h
      rw [fX1_has_L2] at h
      cases h
    | succ n ih =>
      intro v1 v2 h
      rw [fX1_has_L2] at h
      refine xw_iload_n C dX1_has_2 rfl 2 rfl ?_
      refine xw_aload_n C dX1_has_3 rfl 0 rfl ?_
      refine xw_get C in1 0 rfl rfl 1 (by decide) m15 rfl rfl dX1_has_4 ?_
      refine xw_icmp_ge C 30 dX1_has_7 (by decide) (fun c7 => ?_) (fun c7 => ?_)
      · have h := px_t c7 h
        refine xw_iconst C (0) dX1_has_30 (by decide) ?_
        cases h
        rw [hZ]
        exact xw_zret C hr (Or.inl rfl) dX1_has_31
      · have h := px_f c7 h
        refine xw_aload_n C dX1_has_10 rfl 0 rfl ?_
        refine xw_get C in1 0 rfl rfl 0 (by decide) m9 rfl rfl dX1_has_11 ?_
        refine xw_iload_n C dX1_has_14 rfl 2 rfl ?_
        obtain ⟨q15, eq15, h⟩ := px_b h
        refine xw_callNI (w' := w1 E o ad x) (u := (w1 E o ad x).take 1) (v := (w1 E o ad x).drop 2) C (ok_X5_at (a := (ad 0)) (nn := 16) (f := (x.2 0)) eq15) 2 gX1_has_X5_at_n40 rfl ⟨rfl, rfl⟩ (by decide +kernel) (by decide +kernel) (by decide +kernel) (by decide +kernel) ⟨Nat.le_of_ble_eq_true rfl, Nat.le_of_ble_eq_true rfl⟩ rfl (Nat.le_of_ble_eq_true rfl) ⟨Nat.zero_le _, Nat.zero_le _⟩ rfl rfl (by rfl) dX1_has_15 ?_
        refine xw_iload_n C dX1_has_18 rfl 1 rfl ?_
        refine xw_icmp_ne C 24 dX1_has_19 (by decide) (fun c19 => ?_) (fun c19 => ?_)
        · have h := px_f c19 h
          refine px_n h (fun b24 eb24 h => ?_)
          refine xw_iinc (v := b24) C dX1_has_24 2 rfl eb24 (by decide) (lv' := [(2, .int b24), (0, .ref o), (1, .int v1)]) rfl ?_
          refine xw_goto C 2 dX1_has_27 (by decide) ?_
          refine xw_perm [1, 2, 0] rfl ?_
          exact ih _ _ h
        · have h := px_t c19 h
          refine xw_iconst C (1) dX1_has_22 (by decide) ?_
          cases h
          rw [hZ]
          exact xw_zret C hr (Or.inr rfl) dX1_has_23
  rw [fX1_has] at hf
  have h := hf
  refine xw_iconst C (0) dX1_has_0 (by decide) ?_
  refine xw_istore_n C dX1_has_1 rfl (by decide) (lv' := [(2, .int (0)), (0, .ref o), (1, .int p1)]) rfl ?_
  refine xw_perm [1, 2, 0] rfl ?_
  exact hL2 _ _ _ h
def fX3_upOf (p1 : Int32) (x : Ob) : Option (Int32) :=
  Option.bind (fX5_at 64 p1 (x.2 2)) (fun q5 =>
  some q5)
abbrev rmX3_upOf : Room := { frames := 1, cells := 0, slots := 0, locals := 21 }
set_option maxHeartbeats 4000000 in
set_option maxRecDepth 100000 in
theorem ok_X3_upOf {l : Launch} {E : En} {o : Nat} {ad : (Nat → Nat)} {p1 : Int32} {x : Ob} {r : Int32} (hf : fX3_upOf p1 x = some r) : CI l yX3_upOf wsX3_upOf (rmX3_upOf) [.ref o, .int p1] E (w3 E o ad x) (w3 E o ad x) (r) := by
  refine xc_I (by decide) rfl (Nat.le_of_ble_eq_true rfl) [(0, .ref o), (1, .int p1)] rfl (fun p e s m below meth c A C hr => ?_)
  generalize ([.ref o, .int p1] : List Value).toArray = args at C ⊢
  obtain ⟨Z, hZ⟩ : ∃ Z, Z = ZI E (w3 E o ad x) (r) A below args s 0 0 := ⟨_, rfl⟩
  rw [← hZ]
  have in3 : ∀ w ∈ wsX30, w ∈ wsX3_upOf := by decide +kernel
  have m18 : Cond.fieldLink RX3 18 "TurningTrees$Shape" "up" "[I" ∈ wsX3_upOf := by decide +kernel
  rw [fX3_upOf] at hf
  have h := hf
  refine xw_aload_n C dX3_upOf_0 rfl 0 rfl ?_
  refine xw_get C in3 0 rfl rfl 2 (by decide) m18 rfl rfl dX3_upOf_1 ?_
  refine xw_iload_n C dX3_upOf_4 rfl 1 rfl ?_
  obtain ⟨q5, eq5, h⟩ := px_b h
  refine xw_callNI (w' := w3 E o ad x) (u := (w3 E o ad x).take 3) (v := (w3 E o ad x).drop 4) C (ok_X5_at (a := (ad 2)) (nn := 64) (f := (x.2 2)) eq5) 2 gX3_upOf_X5_at_n40 rfl ⟨rfl, rfl⟩ (by decide +kernel) (by decide +kernel) (by decide +kernel) (by decide +kernel) ⟨Nat.le_of_ble_eq_true rfl, Nat.le_of_ble_eq_true rfl⟩ rfl (Nat.le_of_ble_eq_true rfl) ⟨Nat.zero_le _, Nat.zero_le _⟩ rfl rfl (by rfl) dX3_upOf_5 ?_
  cases h
  rw [hZ]
  exact xw_iret C hr dX3_upOf_8
def fX1_startOfNext_L5 : Nat → Int32 → Int32 → Ob → Ob → Option (Int32)
  | 0, _, _, _, _ => none
  | n + 1, v3, v4, x, x1 =>
  (if (64) ≤ v4 then
    some v3
  else
    Option.bind (fX3_upOf v3 x1) (fun q14 =>
    (if q14 = (-1) then
      some v3
    else
      Option.bind (fX1_has q14 x) (fun q28 =>
      (if q28 = 0 then
        px_let (v4 + (1) : Int32) (fun b39 =>
        fX1_startOfNext_L5 n q14 b39 x x1)
      else
        some v3)))))
def fX1_startOfNext (p2 : Int32) (x : Ob) (x1 : Ob) : Option (Int32) :=
  fX1_startOfNext_L5 FU p2 (0) x x1
abbrev rmX1_startOfNext : Room := { frames := 2, cells := 0, slots := 0, locals := 43 }
set_option maxHeartbeats 4000000 in
set_option maxRecDepth 100000 in
theorem ok_X1_startOfNext {l : Launch} {E : En} {o : Nat} {ad : (Nat → Nat)} {o1 : Nat} {ad1 : (Nat → Nat)} {p2 : Int32} {x : Ob} {x1 : Ob} {r : Int32} (hf : fX1_startOfNext p2 x x1 = some r) : CI l yX1_startOfNext wsX1_startOfNext (rmX1_startOfNext) [.ref o, .ref o1, .int p2] E (w1 E o ad x ++ w3 E o1 ad1 x1) (w1 E o ad x ++ w3 E o1 ad1 x1) (r) := by
  refine xc_I (by decide) rfl (Nat.le_of_ble_eq_true rfl) [(0, .ref o), (1, .ref o1), (2, .int p2)] rfl (fun p e s m below meth c A C hr => ?_)
  generalize ([.ref o, .ref o1, .int p2] : List Value).toArray = args at C ⊢
  obtain ⟨Z, hZ⟩ : ∃ Z, Z = ZI E (w1 E o ad x ++ w3 E o1 ad1 x1) (r) A below args s 0 0 := ⟨_, rfl⟩
  rw [← hZ]
  have hL5 : ∀ n : Nat, ∀ (v3 : Int32), ∀ (v4 : Int32), fX1_startOfNext_L5 n v3 v4 x x1 = some r → XW E p l e rmX1_startOfNext s m args below meth c Z A 0 0 (w1 E o ad x ++ w3 E o1 ad1 x1) 5 6 [(0, .ref o), (1, .ref o1), (3, .int v3), (4, .int v4)] [] := by
    intro n
    induction n with
    | zero =>
      intro v3 v4 h
      rw [fX1_startOfNext_L5] at h
      cases h
    | succ n ih =>
      intro v3 v4 h
      rw [fX1_startOfNext_L5] at h
      refine xw_iload C dX1_startOfNext_5 3 rfl ?_
      refine xw_bipush C (64) dX1_startOfNext_7 (by decide) ?_
      refine xw_icmp_ge C 45 dX1_startOfNext_9 (by decide) (fun c9 => ?_) (fun c9 => ?_)
      · have h := px_t c9 h
        refine xw_iload_n C dX1_startOfNext_45 rfl 2 rfl ?_
        cases h
        rw [hZ]
        exact xw_iret C hr dX1_startOfNext_46
      · have h := px_f c9 h
        refine xw_aload_n C dX1_startOfNext_12 rfl 1 rfl ?_
        refine xw_iload_n C dX1_startOfNext_13 rfl 2 rfl ?_
        obtain ⟨q14, eq14, h⟩ := px_b h
        refine xw_callVI (w' := w1 E o ad x ++ w3 E o1 ad1 x1) (u := (w1 E o ad x ++ w3 E o1 ad1 x1).take 2) (v := (w1 E o ad x ++ w3 E o1 ad1 x1).drop 8) C (ok_X3_upOf (o := o1) (ad := ad1) (x := x1) eq14) 1 gX1_startOfNext_X3_upOf rfl ⟨rfl, rfl⟩ (by decide +kernel) ⟨Nat.le_of_ble_eq_true rfl, Nat.le_of_ble_eq_true rfl⟩ 0 3 rfl rfl rfl (Nat.le_of_ble_eq_true rfl) ⟨Nat.zero_le _, Nat.zero_le _⟩ rfl rfl (by rfl) dX1_startOfNext_14 ?_
        refine xw_istore C dX1_startOfNext_17 (by decide) (lv' := [(5, .int q14), (0, .ref o), (1, .ref o1), (3, .int v3), (4, .int v4)]) rfl ?_
        refine xw_iload C dX1_startOfNext_19 0 rfl ?_
        refine xw_iconst C (-1) dX1_startOfNext_21 (by decide) ?_
        refine xw_icmp_eq C 34 dX1_startOfNext_22 (by decide) (fun c22 => ?_) (fun c22 => ?_)
        · have h := px_t c22 h
          refine xw_iload_n C dX1_startOfNext_34 rfl 3 rfl ?_
          cases h
          rw [hZ]
          exact xw_iret C hr dX1_startOfNext_35
        · have h := px_f c22 h
          refine xw_aload_n C dX1_startOfNext_25 rfl 1 rfl ?_
          refine xw_iload C dX1_startOfNext_26 0 rfl ?_
          obtain ⟨q28, eq28, h⟩ := px_b h
          refine xw_callVI (w' := w1 E o ad x ++ w3 E o1 ad1 x1) (u := (w1 E o ad x ++ w3 E o1 ad1 x1).take 0) (v := (w1 E o ad x ++ w3 E o1 ad1 x1).drop 2) C (ok_X1_has (o := o) (ad := ad) (x := x) eq28) 1 gX1_startOfNext_X1_has rfl ⟨rfl, rfl⟩ (by decide +kernel) ⟨Nat.le_of_ble_eq_true rfl, Nat.le_of_ble_eq_true rfl⟩ 0 1 rfl rfl rfl (Nat.le_of_ble_eq_true rfl) ⟨Nat.zero_le _, Nat.zero_le _⟩ rfl rfl (by rfl) dX1_startOfNext_28 ?_
          refine xw_if_eq C 36 dX1_startOfNext_31 (by decide) (fun c31 => ?_) (fun c31 => ?_)
          · have h := px_t c31 h
            refine xw_iload C dX1_startOfNext_36 0 rfl ?_
            refine xw_istore_n C dX1_startOfNext_38 rfl (by decide) (lv' := [(3, .int q14), (5, .int q14), (0, .ref o), (1, .ref o1), (4, .int v4)]) rfl ?_
            refine px_n h (fun b39 eb39 h => ?_)
            refine xw_iinc (v := b39) C dX1_startOfNext_39 4 rfl eb39 (by decide) (lv' := [(4, .int b39), (3, .int q14), (5, .int q14), (0, .ref o), (1, .ref o1)]) rfl ?_
            refine xw_goto C 5 dX1_startOfNext_42 (by decide) ?_
            refine xw_perm [3, 4, 1, 0] rfl ?_
            exact ih _ _ h
          · have h := px_f c31 h
            refine xw_iload_n C dX1_startOfNext_34 rfl 3 rfl ?_
            cases h
            rw [hZ]
            exact xw_iret C hr dX1_startOfNext_35
  rw [fX1_startOfNext] at hf
  have h := hf
  refine xw_iload_n C dX1_startOfNext_0 rfl 2 rfl ?_
  refine xw_istore_n C dX1_startOfNext_1 rfl (by decide) (lv' := [(3, .int p2), (0, .ref o), (1, .ref o1), (2, .int p2)]) rfl ?_
  refine xw_iconst C (0) dX1_startOfNext_2 (by decide) ?_
  refine xw_istore C dX1_startOfNext_3 (by decide) (lv' := [(4, .int (0)), (3, .int p2), (0, .ref o), (1, .ref o1), (2, .int p2)]) rfl ?_
  refine xw_perm [2, 3, 1, 0] rfl ?_
  exact hL5 _ _ _ h
