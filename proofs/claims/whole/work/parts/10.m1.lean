def fX6_weight (p0 : Int32) : Option (Int32) :=
  some ((((37) * p0) + (11)) - (((37) * p0) + (11)) / (64) * (64))
abbrev rmX6_weight : Room := { frames := 0, cells := 0, slots := 0, locals := 0 }
set_option maxHeartbeats 4000000 in
set_option maxRecDepth 100000 in
theorem cX6_weight {l : Launch} {E : En} {p0 : Int32} {r : Int32} (hf : fX6_weight p0 = some r) : CI l yX6_weight wsX6_weight (rmX6_weight) [.int p0] E ([]) ([]) (r) := by
  refine xc_I (by decide) rfl (Nat.le_of_ble_eq_true rfl) [(0, .int p0)] rfl (fun p e s m below meth c A C hr => ?_)
  generalize ([.int p0] : List Value).toArray = args at C ⊢
  obtain ⟨Z, hZ⟩ : ∃ Z, Z = ZI E ([]) (r) A below args s 0 0 := ⟨_, rfl⟩
  rw [← hZ]
  rw [fX6_weight] at hf
  have h := hf
  refine xw_bipush C (37) dX6_weight_0 (by decide) ?_
  refine xw_iload_n C dX6_weight_2 rfl 0 rfl ?_
  refine xw_imul C dX6_weight_3 ?_
  refine xw_bipush C (11) dX6_weight_4 (by decide) ?_
  refine xw_iadd C dX6_weight_6 ?_
  refine xw_bipush C (64) dX6_weight_7 (by decide) ?_
  refine xw_irem C dX6_weight_9 (by decide) ?_
  cases h
  rw [hZ]
  exact xw_iret C hr dX6_weight_10
def fX6_isKey (p0 : Int32) : Option (Int32) :=
  (if p0 < 0 then
    some (0)
  else
    (if (64) ≤ p0 then
      some (0)
    else
      some (1)))
abbrev rmX6_isKey : Room := { frames := 0, cells := 0, slots := 0, locals := 0 }
set_option maxHeartbeats 4000000 in
set_option maxRecDepth 100000 in
theorem cX6_isKey {l : Launch} {E : En} {p0 : Int32} {r : Int32} (hf : fX6_isKey p0 = some r) : CI l yX6_isKey wsX6_isKey (rmX6_isKey) [.int p0] E ([]) ([]) (r) := by
  refine xc_I (by decide) rfl (Nat.le_of_ble_eq_true rfl) [(0, .int p0)] rfl (fun p e s m below meth c A C hr => ?_)
  generalize ([.int p0] : List Value).toArray = args at C ⊢
  obtain ⟨Z, hZ⟩ : ∃ Z, Z = ZI E ([]) (r) A below args s 0 0 := ⟨_, rfl⟩
  rw [← hZ]
  rw [fX6_isKey] at hf
  have h := hf
  refine xw_iload_n C dX6_isKey_0 rfl 0 rfl ?_
  refine xw_if_lt C 14 dX6_isKey_1 (by decide) (fun c1 => ?_) (fun c1 => ?_)
  · have h := px_t c1 h
    refine xw_iconst C (0) dX6_isKey_14 (by decide) ?_
    cases h
    rw [hZ]
    exact xw_zret C hr (Or.inl rfl) dX6_isKey_15
  · have h := px_f c1 h
    refine xw_iload_n C dX6_isKey_4 rfl 0 rfl ?_
    refine xw_bipush C (64) dX6_isKey_5 (by decide) ?_
    refine xw_icmp_ge C 14 dX6_isKey_7 (by decide) (fun c7 => ?_) (fun c7 => ?_)
    · have h := px_t c7 h
      refine xw_iconst C (0) dX6_isKey_14 (by decide) ?_
      cases h
      rw [hZ]
      exact xw_zret C hr (Or.inl rfl) dX6_isKey_15
    · have h := px_f c7 h
      refine xw_iconst C (1) dX6_isKey_10 (by decide) ?_
      refine xw_goto C 15 dX6_isKey_11 (by decide) ?_
      cases h
      rw [hZ]
      exact xw_zret C hr (Or.inr rfl) dX6_isKey_15
def fX6_isTree (p1 : Int32) (x : Ob) : Option (Int32) :=
  (if p1 < 0 then
    some (0)
  else
    (if (x.1 1) ≤ p1 then
      some (0)
    else
      some (1)))
abbrev rmX6_isTree : Room := { frames := 0, cells := 0, slots := 0, locals := 0 }
set_option maxHeartbeats 4000000 in
set_option maxRecDepth 100000 in
theorem cX6_isTree {l : Launch} {E : En} {o : Nat} {ad : (Nat → Nat)} {p1 : Int32} {x : Ob} {r : Int32} (hf : fX6_isTree p1 x = some r) : CI l yX6_isTree wsX6_isTree (rmX6_isTree) [.ref o, .int p1] E (w6 E o ad x) (w6 E o ad x) (r) := by
  refine xc_I (by decide) rfl (Nat.le_of_ble_eq_true rfl) [(0, .ref o), (1, .int p1)] rfl (fun p e s m below meth c A C hr => ?_)
  generalize ([.ref o, .int p1] : List Value).toArray = args at C ⊢
  obtain ⟨Z, hZ⟩ : ∃ Z, Z = ZI E (w6 E o ad x) (r) A below args s 0 0 := ⟨_, rfl⟩
  rw [← hZ]
  have in6 : ∀ w ∈ wsX60, w ∈ wsX6_isTree := by decide +kernel
  have m81 : Cond.fieldLink RX6 81 "TurningTreesModel" "trees" "I" ∈ wsX6_isTree := by decide +kernel
  rw [fX6_isTree] at hf
  have h := hf
  refine xw_iload_n C dX6_isTree_0 rfl 1 rfl ?_
  refine xw_if_lt C 16 dX6_isTree_1 (by decide) (fun c1 => ?_) (fun c1 => ?_)
  · have h := px_t c1 h
    refine xw_iconst C (0) dX6_isTree_16 (by decide) ?_
    cases h
    rw [hZ]
    exact xw_zret C hr (Or.inl rfl) dX6_isTree_17
  · have h := px_f c1 h
    refine xw_iload_n C dX6_isTree_4 rfl 1 rfl ?_
    refine xw_aload_n C dX6_isTree_5 rfl 0 rfl ?_
    refine xw_get C in6 0 rfl rfl 1 (by decide) m81 rfl rfl dX6_isTree_6 ?_
    refine xw_icmp_ge C 16 dX6_isTree_9 (by decide) (fun c9 => ?_) (fun c9 => ?_)
    · have h := px_t c9 h
      refine xw_iconst C (0) dX6_isTree_16 (by decide) ?_
      cases h
      rw [hZ]
      exact xw_zret C hr (Or.inl rfl) dX6_isTree_17
    · have h := px_f c9 h
      refine xw_iconst C (1) dX6_isTree_12 (by decide) ?_
      refine xw_goto C 17 dX6_isTree_13 (by decide) ?_
      cases h
      rw [hZ]
      exact xw_zret C hr (Or.inr rfl) dX6_isTree_17
def fX6_thrown (x : Ob) : Option (Int32) :=
  some (x.1 0)
abbrev rmX6_thrown : Room := { frames := 0, cells := 0, slots := 0, locals := 0 }
set_option maxHeartbeats 4000000 in
set_option maxRecDepth 100000 in
theorem cX6_thrown {l : Launch} {E : En} {o : Nat} {ad : (Nat → Nat)} {x : Ob} {r : Int32} (hf : fX6_thrown x = some r) : CI l yX6_thrown wsX6_thrown (rmX6_thrown) [.ref o] E (w6 E o ad x) (w6 E o ad x) (r) := by
  refine xc_I (by decide) rfl (Nat.le_of_ble_eq_true rfl) [(0, .ref o)] rfl (fun p e s m below meth c A C hr => ?_)
  generalize ([.ref o] : List Value).toArray = args at C ⊢
  obtain ⟨Z, hZ⟩ : ∃ Z, Z = ZI E (w6 E o ad x) (r) A below args s 0 0 := ⟨_, rfl⟩
  rw [← hZ]
  have in6 : ∀ w ∈ wsX60, w ∈ wsX6_thrown := by decide +kernel
  have m77 : Cond.fieldLink RX6 77 "TurningTreesModel" "thrown" "I" ∈ wsX6_thrown := by decide +kernel
  rw [fX6_thrown] at hf
  have h := hf
  refine xw_aload_n C dX6_thrown_0 rfl 0 rfl ?_
  refine xw_get C in6 0 rfl rfl 0 (by decide) m77 rfl rfl dX6_thrown_1 ?_
  cases h
  rw [hZ]
  exact xw_iret C hr dX6_thrown_4
def fX6_hangsLeft (p1 : Int32) (p2 : Int32) (p3 : Int32) (x : Ob) : Option (Ob) :=
  ix (((64) * p1) + p3) 512 (fun j11 =>
  px_let (ob_a x 5 j11 p2) (fun x_11 =>
  (if p2 < 0 then
    some x_11
  else
    ix (((64) * p1) + p2) 512 (fun j27 =>
    px_let (ob_a x_11 4 j27 p3) (fun x_27 =>
    some x_27)))))
abbrev rmX6_hangsLeft : Room := { frames := 0, cells := 0, slots := 0, locals := 0 }
set_option maxHeartbeats 4000000 in
set_option maxRecDepth 100000 in
theorem cX6_hangsLeft {l : Launch} {E : En} {o : Nat} {ad : (Nat → Nat)} {p1 : Int32} {p2 : Int32} {p3 : Int32} {x : Ob} {r : Ob} (hf : fX6_hangsLeft p1 p2 p3 x = some r) : CV l yX6_hangsLeft wsX6_hangsLeft (rmX6_hangsLeft) [.ref o, .int p1, .int p2, .int p3] E (w6 E o ad x) (w6 E o ad r) := by
  refine xc_V (by decide) rfl (Nat.le_of_ble_eq_true rfl) [(0, .ref o), (1, .int p1), (2, .int p2), (3, .int p3)] rfl (fun p e s m below meth c A C hr => ?_)
  generalize ([.ref o, .int p1, .int p2, .int p3] : List Value).toArray = args at C ⊢
  obtain ⟨Z, hZ⟩ : ∃ Z, Z = ZV E (w6 E o ad r) A below args s 0 0 := ⟨_, rfl⟩
  rw [← hZ]
  have in6 : ∀ w ∈ wsX60, w ∈ wsX6_hangsLeft := by decide +kernel
  have m16 : Cond.fieldLink RX6 16 "TurningTreesModel" "above" "[I" ∈ wsX6_hangsLeft := by decide +kernel
  have m19 : Cond.fieldLink RX6 19 "TurningTreesModel" "left" "[I" ∈ wsX6_hangsLeft := by decide +kernel
  rw [fX6_hangsLeft] at hf
  have h := hf
  refine xw_aload_n C dX6_hangsLeft_0 rfl 0 rfl ?_
  refine xw_get C in6 0 rfl rfl 5 (by decide) m19 rfl rfl dX6_hangsLeft_1 ?_
  refine xw_bipush C (64) dX6_hangsLeft_4 (by decide) ?_
  refine xw_iload_n C dX6_hangsLeft_6 rfl 1 rfl ?_
  refine xw_imul C dX6_hangsLeft_7 ?_
  refine xw_iload_n C dX6_hangsLeft_8 rfl 3 rfl ?_
  refine xw_iadd C dX6_hangsLeft_9 ?_
  refine xw_iload_n C dX6_hangsLeft_10 rfl 2 rfl ?_
  obtain ⟨g11, h⟩ := px_x h
  refine px_n h (fun x_11 ex_11 h => ?_)
  refine xw_iast (w' := w6 E o ad x_11) C 4 rfl g11 (by rw [ex_11]; rfl) dX6_hangsLeft_11 ?_
  refine xw_iload_n C dX6_hangsLeft_12 rfl 2 rfl ?_
  refine xw_if_lt C 28 dX6_hangsLeft_13 (by decide) (fun c13 => ?_) (fun c13 => ?_)
  · have h := px_t c13 h
    cases h
    rw [hZ]
    exact xw_vret C hr dX6_hangsLeft_28
  · have h := px_f c13 h
    refine xw_aload_n C dX6_hangsLeft_16 rfl 0 rfl ?_
    refine xw_get C in6 0 rfl rfl 4 (by decide) m16 rfl rfl dX6_hangsLeft_17 ?_
    refine xw_bipush C (64) dX6_hangsLeft_20 (by decide) ?_
    refine xw_iload_n C dX6_hangsLeft_22 rfl 1 rfl ?_
    refine xw_imul C dX6_hangsLeft_23 ?_
    refine xw_iload_n C dX6_hangsLeft_24 rfl 2 rfl ?_
    refine xw_iadd C dX6_hangsLeft_25 ?_
    refine xw_iload_n C dX6_hangsLeft_26 rfl 3 rfl ?_
    obtain ⟨g27, h⟩ := px_x h
    refine px_n h (fun x_27 ex_27 h => ?_)
    refine xw_iast (w' := w6 E o ad x_27) C 3 rfl g27 (by rw [ex_27]; rfl) dX6_hangsLeft_27 ?_
    cases h
    rw [hZ]
    exact xw_vret C hr dX6_hangsLeft_28
def fX6_depthOf_L15 : Nat → Int32 → Int32 → Int32 → Ob → Option (Int32)
  | 0, _, _, _, _ => none
  | n + 1, v1, v3, v4, x =>
  (if v4 < 0 then
    some v3
  else
    px_let (v3 + (1) : Int32) (fun b20 =>
    ix (((64) * v1) + v4) 512 (fun j34 =>
    px_let ((x.2 4 j34) : Int32) (fun b35 =>
    fX6_depthOf_L15 n v1 b20 b35 x))))
def fX6_depthOf (p1 : Int32) (p2 : Int32) (x : Ob) : Option (Int32) :=
  ix (((64) * p1) + p2) 512 (fun j12 =>
  px_let ((x.2 4 j12) : Int32) (fun b13 =>
  fX6_depthOf_L15 FU p1 (1) b13 x))
abbrev rmX6_depthOf : Room := { frames := 0, cells := 0, slots := 0, locals := 0 }
set_option maxHeartbeats 4000000 in
set_option maxRecDepth 100000 in
theorem cX6_depthOf {l : Launch} {E : En} {o : Nat} {ad : (Nat → Nat)} {p1 : Int32} {p2 : Int32} {x : Ob} {r : Int32} (hf : fX6_depthOf p1 p2 x = some r) : CI l yX6_depthOf wsX6_depthOf (rmX6_depthOf) [.ref o, .int p1, .int p2] E (w6 E o ad x) (w6 E o ad x) (r) := by
  refine xc_I (by decide) rfl (Nat.le_of_ble_eq_true rfl) [(0, .ref o), (1, .int p1), (2, .int p2)] rfl (fun p e s m below meth c A C hr => ?_)
  generalize ([.ref o, .int p1, .int p2] : List Value).toArray = args at C ⊢
  obtain ⟨Z, hZ⟩ : ∃ Z, Z = ZI E (w6 E o ad x) (r) A below args s 0 0 := ⟨_, rfl⟩
  rw [← hZ]
  have in6 : ∀ w ∈ wsX60, w ∈ wsX6_depthOf := by decide +kernel
  have m16 : Cond.fieldLink RX6 16 "TurningTreesModel" "above" "[I" ∈ wsX6_depthOf := by decide +kernel
  have hL15 : ∀ n : Nat, ∀ (v1 : Int32), ∀ (v3 : Int32), ∀ (v4 : Int32), ∀ (x : Ob), fX6_depthOf_L15 n v1 v3 v4 x = some r → XW E p l e rmX6_depthOf s m args below meth c Z A 0 0 (w6 E o ad x) 15 5 [(0, .ref o), (1, .int v1), (3, .int v3), (4, .int v4)] [] := by
    intro n
    induction n with
    | zero =>
      intro v1 v3 v4 x h
      rw [fX6_depthOf_L15] at h
      cases h
    | succ n ih =>
      intro v1 v3 v4 x h
      rw [fX6_depthOf_L15] at h
      refine xw_iload C dX6_depthOf_15 3 rfl ?_
      refine xw_if_lt C 40 dX6_depthOf_17 (by decide) (fun c17 => ?_) (fun c17 => ?_)
      · have h := px_t c17 h
        refine xw_iload_n C dX6_depthOf_40 rfl 2 rfl ?_
        cases h
        rw [hZ]
        exact xw_iret C hr dX6_depthOf_41
      · have h := px_f c17 h
        refine px_n h (fun b20 eb20 h => ?_)
        refine xw_iinc (v := b20) C dX6_depthOf_20 2 rfl eb20 (by decide) (lv' := [(3, .int b20), (0, .ref o), (1, .int v1), (4, .int v4)]) rfl ?_
        refine xw_aload_n C dX6_depthOf_23 rfl 1 rfl ?_
        refine xw_get C in6 0 rfl rfl 4 (by decide) m16 rfl rfl dX6_depthOf_24 ?_
        refine xw_bipush C (64) dX6_depthOf_27 (by decide) ?_
        refine xw_iload_n C dX6_depthOf_29 rfl 2 rfl ?_
        refine xw_imul C dX6_depthOf_30 ?_
        refine xw_iload C dX6_depthOf_31 3 rfl ?_
        refine xw_iadd C dX6_depthOf_33 ?_
        obtain ⟨g34, h⟩ := px_x h
        refine xw_iald C 3 rfl g34 dX6_depthOf_34 ?_
        refine xw_topi (fun b35 eb35 => ?_)
        have h := px_v h b35 eb35
        refine xw_istore C dX6_depthOf_35 (by decide) (lv' := [(4, .int b35), (3, .int b20), (0, .ref o), (1, .int v1)]) rfl ?_
        refine xw_goto C 15 dX6_depthOf_37 (by decide) ?_
        refine xw_perm [2, 3, 1, 0] rfl ?_
        exact ih _ _ _ _ h
  rw [fX6_depthOf] at hf
  have h := hf
  refine xw_iconst C (1) dX6_depthOf_0 (by decide) ?_
  refine xw_istore_n C dX6_depthOf_1 rfl (by decide) (lv' := [(3, .int (1)), (0, .ref o), (1, .int p1), (2, .int p2)]) rfl ?_
  refine xw_aload_n C dX6_depthOf_2 rfl 1 rfl ?_
  refine xw_get C in6 0 rfl rfl 4 (by decide) m16 rfl rfl dX6_depthOf_3 ?_
  refine xw_bipush C (64) dX6_depthOf_6 (by decide) ?_
  refine xw_iload_n C dX6_depthOf_8 rfl 2 rfl ?_
  refine xw_imul C dX6_depthOf_9 ?_
  refine xw_iload_n C dX6_depthOf_10 rfl 3 rfl ?_
  refine xw_iadd C dX6_depthOf_11 ?_
  obtain ⟨g12, h⟩ := px_x h
  refine xw_iald C 3 rfl g12 dX6_depthOf_12 ?_
  refine xw_topi (fun b13 eb13 => ?_)
  have h := px_v h b13 eb13
  refine xw_istore C dX6_depthOf_13 (by decide) (lv' := [(4, .int b13), (3, .int (1)), (0, .ref o), (1, .int p1), (2, .int p2)]) rfl ?_
  refine xw_perm [2, 3, 1, 0] rfl ?_
  exact hL15 _ _ _ _ _ h
def fX6_sizeOf : Nat → Int32 → Int32 → Ob → Option (Int32)
  | 0, _, _, _ => none
  | d + 1, p1, p2, x =>
  (if 0 ≤ p2 then
    ix (((64) * p1) + p2) 512 (fun j21 =>
    Option.bind (fX6_sizeOf d p1 (x.2 5 j21) x) (fun q22 =>
    ix (((64) * p1) + p2) 512 (fun j38 =>
    Option.bind (fX6_sizeOf d p1 (x.2 6 j38) x) (fun q39 =>
    some (((1) + q22) + q39)))))
  else
    some (0))
abbrev rmX6_sizeOf (d : Nat) : Room := { frames := d + 0, cells := 0, slots := 0, locals := d * 22 + 0 }
set_option maxHeartbeats 4000000 in
set_option maxRecDepth 100000 in
theorem cX6_sizeOf {l : Launch} {E : En} {o : Nat} {ad : (Nat → Nat)} : ∀ (d : Nat) {p1 : Int32} {p2 : Int32} {x : Ob} {r : Int32}, fX6_sizeOf d p1 p2 x = some r → CI l yX6_sizeOf wsX6_sizeOf (rmX6_sizeOf d) [.ref o, .int p1, .int p2] E (w6 E o ad x) (w6 E o ad x) (r) := by
  intro d
  induction d with
  | zero =>
    intro p1 p2 x r hf
    rw [fX6_sizeOf] at hf
    cases hf
  | succ d ih =>
    intro p1 p2 x r hf
    refine xc_I (by decide) rfl (Nat.le_of_ble_eq_true rfl) [(0, .ref o), (1, .int p1), (2, .int p2)] rfl (fun p e s m below meth c A C hr => ?_)
    generalize ([.ref o, .int p1, .int p2] : List Value).toArray = args at C ⊢
    obtain ⟨Z, hZ⟩ : ∃ Z, Z = ZI E (w6 E o ad x) (r) A below args s 0 0 := ⟨_, rfl⟩
    rw [← hZ]
    have in6 : ∀ w ∈ wsX60, w ∈ wsX6_sizeOf := by decide +kernel
    have m19 : Cond.fieldLink RX6 19 "TurningTreesModel" "left" "[I" ∈ wsX6_sizeOf := by decide +kernel
    have m22 : Cond.fieldLink RX6 22 "TurningTreesModel" "right" "[I" ∈ wsX6_sizeOf := by decide +kernel
    rw [fX6_sizeOf] at hf
    have h := hf
    refine xw_iload_n C dX6_sizeOf_0 rfl 2 rfl ?_
    refine xw_if_ge C 8 dX6_sizeOf_1 (by decide) (fun c1 => ?_) (fun c1 => ?_)
    · have h := px_t c1 h
      refine xw_iconst C (1) dX6_sizeOf_8 (by decide) ?_
      refine xw_aload_n C dX6_sizeOf_9 rfl 0 rfl ?_
      refine xw_iload_n C dX6_sizeOf_10 rfl 1 rfl ?_
      refine xw_aload_n C dX6_sizeOf_11 rfl 0 rfl ?_
      refine xw_get C in6 0 rfl rfl 5 (by decide) m19 rfl rfl dX6_sizeOf_12 ?_
      refine xw_bipush C (64) dX6_sizeOf_15 (by decide) ?_
      refine xw_iload_n C dX6_sizeOf_17 rfl 1 rfl ?_
      refine xw_imul C dX6_sizeOf_18 ?_
      refine xw_iload_n C dX6_sizeOf_19 rfl 2 rfl ?_
      refine xw_iadd C dX6_sizeOf_20 ?_
      obtain ⟨g21, h⟩ := px_x h
      refine xw_iald C 4 rfl g21 dX6_sizeOf_21 ?_
      obtain ⟨q22, eq22, h⟩ := px_b h
      refine xw_callVI (w' := w6 E o ad x) (u := []) (v := []) C (ih eq22) 2 gX6_sizeOf_X6_sizeOf rfl ⟨rfl, rfl⟩ (by decide +kernel) ⟨by show _ ≤ _; omega, by show _ ≤ _; omega⟩ 0 6 rfl rfl rfl (Nat.le_of_ble_eq_true rfl) ⟨Nat.zero_le _, Nat.zero_le _⟩ rfl xe0 xe0.symm dX6_sizeOf_22 ?_
      refine xw_iadd C dX6_sizeOf_25 ?_
      refine xw_aload_n C dX6_sizeOf_26 rfl 0 rfl ?_
      refine xw_iload_n C dX6_sizeOf_27 rfl 1 rfl ?_
      refine xw_aload_n C dX6_sizeOf_28 rfl 0 rfl ?_
      refine xw_get C in6 0 rfl rfl 6 (by decide) m22 rfl rfl dX6_sizeOf_29 ?_
      refine xw_bipush C (64) dX6_sizeOf_32 (by decide) ?_
      refine xw_iload_n C dX6_sizeOf_34 rfl 1 rfl ?_
      refine xw_imul C dX6_sizeOf_35 ?_
      refine xw_iload_n C dX6_sizeOf_36 rfl 2 rfl ?_
      refine xw_iadd C dX6_sizeOf_37 ?_
      obtain ⟨g38, h⟩ := px_x h
      refine xw_iald C 5 rfl g38 dX6_sizeOf_38 ?_
      obtain ⟨q39, eq39, h⟩ := px_b h
      refine xw_callVI (w' := w6 E o ad x) (u := []) (v := []) C (ih eq39) 2 gX6_sizeOf_X6_sizeOf rfl ⟨rfl, rfl⟩ (by decide +kernel) ⟨by show _ ≤ _; omega, by show _ ≤ _; omega⟩ 0 6 rfl rfl rfl (Nat.le_of_ble_eq_true rfl) ⟨Nat.zero_le _, Nat.zero_le _⟩ rfl xe0 xe0.symm dX6_sizeOf_39 ?_
      refine xw_iadd C dX6_sizeOf_42 ?_
      cases h
      rw [hZ]
      exact xw_iret C hr dX6_sizeOf_43
    · have h := px_f c1 h
      refine xw_iconst C (0) dX6_sizeOf_4 (by decide) ?_
      refine xw_goto C 43 dX6_sizeOf_5 (by decide) ?_
      cases h
      rw [hZ]
      exact xw_iret C hr dX6_sizeOf_43
def fX6_takesPlace_J73 (v1 : Int32) (v3 : Int32) (v4 : Int32) (x : Ob) : Option (Ob) :=
  (if v3 < 0 then
    some x
  else
    ix (((64) * v1) + v3) 512 (fun j89 =>
    px_let (ob_a x 4 j89 v4) (fun x_89 =>
    some x_89)))
def fX6_takesPlace (p1 : Int32) (p2 : Int32) (p3 : Int32) (x : Ob) : Option (Ob) :=
  ix (((64) * p1) + p2) 512 (fun j10 =>
  px_let ((x.2 4 j10) : Int32) (fun b11 =>
  (if 0 ≤ b11 then
    ix (((64) * p1) + b11) 512 (fun j39 =>
    (if (x.2 5 j39) = p2 then
      ix (((64) * p1) + b11) 512 (fun j56 =>
      px_let (ob_a x 5 j56 p3) (fun x_56 =>
      fX6_takesPlace_J73 p1 p3 b11 x_56))
    else
      ix (((64) * p1) + b11) 512 (fun j72 =>
      px_let (ob_a x 6 j72 p3) (fun x_72 =>
      fX6_takesPlace_J73 p1 p3 b11 x_72))))
  else
    ix p1 8 (fun j24 =>
    px_let (ob_a x 3 j24 p3) (fun x_24 =>
    fX6_takesPlace_J73 p1 p3 b11 x_24)))))
abbrev rmX6_takesPlace : Room := { frames := 0, cells := 0, slots := 0, locals := 0 }
set_option maxHeartbeats 4000000 in
set_option maxRecDepth 100000 in
theorem cX6_takesPlace {l : Launch} {E : En} {o : Nat} {ad : (Nat → Nat)} {p1 : Int32} {p2 : Int32} {p3 : Int32} {x : Ob} {r : Ob} (hf : fX6_takesPlace p1 p2 p3 x = some r) : CV l yX6_takesPlace wsX6_takesPlace (rmX6_takesPlace) [.ref o, .int p1, .int p2, .int p3] E (w6 E o ad x) (w6 E o ad r) := by
  refine xc_V (by decide) rfl (Nat.le_of_ble_eq_true rfl) [(0, .ref o), (1, .int p1), (2, .int p2), (3, .int p3)] rfl (fun p e s m below meth c A C hr => ?_)
  generalize ([.ref o, .int p1, .int p2, .int p3] : List Value).toArray = args at C ⊢
  obtain ⟨Z, hZ⟩ : ∃ Z, Z = ZV E (w6 E o ad r) A below args s 0 0 := ⟨_, rfl⟩
  rw [← hZ]
  have in6 : ∀ w ∈ wsX60, w ∈ wsX6_takesPlace := by decide +kernel
  have m13 : Cond.fieldLink RX6 13 "TurningTreesModel" "root" "[I" ∈ wsX6_takesPlace := by decide +kernel
  have m16 : Cond.fieldLink RX6 16 "TurningTreesModel" "above" "[I" ∈ wsX6_takesPlace := by decide +kernel
  have m19 : Cond.fieldLink RX6 19 "TurningTreesModel" "left" "[I" ∈ wsX6_takesPlace := by decide +kernel
  have m22 : Cond.fieldLink RX6 22 "TurningTreesModel" "right" "[I" ∈ wsX6_takesPlace := by decide +kernel
  have hJ73 : ∀ (v1 : Int32), ∀ (v3 : Int32), ∀ (v4 : Int32), ∀ (x : Ob), fX6_takesPlace_J73 v1 v3 v4 x = some r → XW E p l e rmX6_takesPlace s m args below meth c Z A 0 0 (w6 E o ad x) 73 5 [(0, .ref o), (1, .int v1), (3, .int v3), (4, .int v4)] [] := by
    intro v1 v3 v4 x h
    rw [fX6_takesPlace_J73] at h
    refine xw_iload_n C dX6_takesPlace_73 rfl 2 rfl ?_
    refine xw_if_lt C 90 dX6_takesPlace_74 (by decide) (fun c74 => ?_) (fun c74 => ?_)
    · have h := px_t c74 h
      cases h
      rw [hZ]
      exact xw_vret C hr dX6_takesPlace_90
    · have h := px_f c74 h
      refine xw_aload_n C dX6_takesPlace_77 rfl 0 rfl ?_
      refine xw_get C in6 0 rfl rfl 4 (by decide) m16 rfl rfl dX6_takesPlace_78 ?_
      refine xw_bipush C (64) dX6_takesPlace_81 (by decide) ?_
      refine xw_iload_n C dX6_takesPlace_83 rfl 1 rfl ?_
      refine xw_imul C dX6_takesPlace_84 ?_
      refine xw_iload_n C dX6_takesPlace_85 rfl 2 rfl ?_
      refine xw_iadd C dX6_takesPlace_86 ?_
      refine xw_iload C dX6_takesPlace_87 3 rfl ?_
      obtain ⟨g89, h⟩ := px_x h
      refine px_n h (fun x_89 ex_89 h => ?_)
      refine xw_iast (w' := w6 E o ad x_89) C 3 rfl g89 (by rw [ex_89]; rfl) dX6_takesPlace_89 ?_
      cases h
      rw [hZ]
      exact xw_vret C hr dX6_takesPlace_90
  rw [fX6_takesPlace] at hf
  have h := hf
  refine xw_aload_n C dX6_takesPlace_0 rfl 0 rfl ?_
  refine xw_get C in6 0 rfl rfl 4 (by decide) m16 rfl rfl dX6_takesPlace_1 ?_
  refine xw_bipush C (64) dX6_takesPlace_4 (by decide) ?_
  refine xw_iload_n C dX6_takesPlace_6 rfl 1 rfl ?_
  refine xw_imul C dX6_takesPlace_7 ?_
  refine xw_iload_n C dX6_takesPlace_8 rfl 2 rfl ?_
  refine xw_iadd C dX6_takesPlace_9 ?_
  obtain ⟨g10, h⟩ := px_x h
  refine xw_iald C 3 rfl g10 dX6_takesPlace_10 ?_
  refine xw_topi (fun b11 eb11 => ?_)
  have h := px_v h b11 eb11
  refine xw_istore C dX6_takesPlace_11 (by decide) (lv' := [(4, .int b11), (0, .ref o), (1, .int p1), (2, .int p2), (3, .int p3)]) rfl ?_
  refine xw_iload C dX6_takesPlace_13 0 rfl ?_
  refine xw_if_ge C 28 dX6_takesPlace_15 (by decide) (fun c15 => ?_) (fun c15 => ?_)
  · have h := px_t c15 h
    refine xw_aload_n C dX6_takesPlace_28 rfl 1 rfl ?_
    refine xw_get C in6 0 rfl rfl 5 (by decide) m19 rfl rfl dX6_takesPlace_29 ?_
    refine xw_bipush C (64) dX6_takesPlace_32 (by decide) ?_
    refine xw_iload_n C dX6_takesPlace_34 rfl 2 rfl ?_
    refine xw_imul C dX6_takesPlace_35 ?_
    refine xw_iload C dX6_takesPlace_36 0 rfl ?_
    refine xw_iadd C dX6_takesPlace_38 ?_
    obtain ⟨g39, h⟩ := px_x h
    refine xw_iald C 4 rfl g39 dX6_takesPlace_39 ?_
    refine xw_iload_n C dX6_takesPlace_40 rfl 3 rfl ?_
    refine xw_icmp_ne C 60 dX6_takesPlace_41 (by decide) (fun c41 => ?_) (fun c41 => ?_)
    · have h := px_f c41 h
      refine xw_aload_n C dX6_takesPlace_60 rfl 1 rfl ?_
      refine xw_get C in6 0 rfl rfl 6 (by decide) m22 rfl rfl dX6_takesPlace_61 ?_
      refine xw_bipush C (64) dX6_takesPlace_64 (by decide) ?_
      refine xw_iload_n C dX6_takesPlace_66 rfl 2 rfl ?_
      refine xw_imul C dX6_takesPlace_67 ?_
      refine xw_iload C dX6_takesPlace_68 0 rfl ?_
      refine xw_iadd C dX6_takesPlace_70 ?_
      refine xw_iload_n C dX6_takesPlace_71 rfl 4 rfl ?_
      obtain ⟨g72, h⟩ := px_x h
      refine px_n h (fun x_72 ex_72 h => ?_)
      refine xw_iast (w' := w6 E o ad x_72) C 5 rfl g72 (by rw [ex_72]; rfl) dX6_takesPlace_72 ?_
      refine xw_perm [1, 2, 4, 0] rfl ?_
      exact hJ73 _ _ _ _ h
    · have h := px_t c41 h
      refine xw_aload_n C dX6_takesPlace_44 rfl 1 rfl ?_
      refine xw_get C in6 0 rfl rfl 5 (by decide) m19 rfl rfl dX6_takesPlace_45 ?_
      refine xw_bipush C (64) dX6_takesPlace_48 (by decide) ?_
      refine xw_iload_n C dX6_takesPlace_50 rfl 2 rfl ?_
      refine xw_imul C dX6_takesPlace_51 ?_
      refine xw_iload C dX6_takesPlace_52 0 rfl ?_
      refine xw_iadd C dX6_takesPlace_54 ?_
      refine xw_iload_n C dX6_takesPlace_55 rfl 4 rfl ?_
      obtain ⟨g56, h⟩ := px_x h
      refine px_n h (fun x_56 ex_56 h => ?_)
      refine xw_iast (w' := w6 E o ad x_56) C 4 rfl g56 (by rw [ex_56]; rfl) dX6_takesPlace_56 ?_
      refine xw_goto C 73 dX6_takesPlace_57 (by decide) ?_
      refine xw_perm [1, 2, 4, 0] rfl ?_
      exact hJ73 _ _ _ _ h
  · have h := px_f c15 h
    refine xw_aload_n C dX6_takesPlace_18 rfl 1 rfl ?_
    refine xw_get C in6 0 rfl rfl 3 (by decide) m13 rfl rfl dX6_takesPlace_19 ?_
    refine xw_iload_n C dX6_takesPlace_22 rfl 2 rfl ?_
    refine xw_iload_n C dX6_takesPlace_23 rfl 4 rfl ?_
    obtain ⟨g24, h⟩ := px_x h
    refine px_n h (fun x_24 ex_24 h => ?_)
    refine xw_iast (w' := w6 E o ad x_24) C 2 rfl g24 (by rw [ex_24]; rfl) dX6_takesPlace_24 ?_
    refine xw_goto C 73 dX6_takesPlace_25 (by decide) ?_
    refine xw_perm [1, 2, 4, 0] rfl ?_
    exact hJ73 _ _ _ _ h
