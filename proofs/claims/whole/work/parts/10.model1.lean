def fX6_thrown (x : Ob) : Option (Int32) :=
  some (x.1 0)
abbrev rmX6_thrown : Room := { frames := 0, cells := 0, slots := 0, locals := 0 }
set_option maxHeartbeats 4000000 in
set_option maxRecDepth 100000 in
theorem ok_X6_thrown {l : Launch} {E : En} {o : Nat} {ad : (Nat → Nat)} {x : Ob} {r : Int32} (hf : fX6_thrown x = some r) : CI l yX6_thrown wsX6_thrown (rmX6_thrown) [.ref o] E (w6 E o ad x) (w6 E o ad x) (r) := by
  refine xc_I (by decide) rfl (Nat.le_of_ble_eq_true rfl) [(0, .ref o)] rfl (fun p e s m below meth c A C hr => ?_)
  generalize ([.ref o] : List Value).toArray = args at C ⊢
  obtain ⟨Z, hZ⟩ : ∃ Z, Z = ZI E (w6 E o ad x) (r) A below args s 0 0 := ⟨_, rfl⟩
  rw [← hZ]
  have in6 : ∀ w ∈ wsX60, w ∈ wsX6_thrown := by decide +kernel
  have m77 : Cond.fieldLink RX6 77 "TurningTreesModel" "thrown" "I" ∈ wsX6_thrown := by decide +kernel
  rw [fX6_thrown] at hf
  have h := hf
  refine xw_aload_n C dX6_thrown_0 rfl 0 rfl ?_
  refine xw_get C in6 0 rfl rfl 0 (by decide) m77 rfl rfl dX6_thrown_1 ?_
  cases h
  rw [hZ]
  exact xw_iret C hr dX6_thrown_4
def fX6_isTree (p1 : Int32) (x : Ob) : Option (Int32) :=
  (if p1 < 0 then
    some (0)
  else
    (if (x.1 1) ≤ p1 then
      some (0)
    else
      some (1)))
abbrev rmX6_isTree : Room := { frames := 0, cells := 0, slots := 0, locals := 0 }
set_option maxHeartbeats 4000000 in
set_option maxRecDepth 100000 in
theorem ok_X6_isTree {l : Launch} {E : En} {o : Nat} {ad : (Nat → Nat)} {p1 : Int32} {x : Ob} {r : Int32} (hf : fX6_isTree p1 x = some r) : CI l yX6_isTree wsX6_isTree (rmX6_isTree) [.ref o, .int p1] E (w6 E o ad x) (w6 E o ad x) (r) := by
  refine xc_I (by decide) rfl (Nat.le_of_ble_eq_true rfl) [(0, .ref o), (1, .int p1)] rfl (fun p e s m below meth c A C hr => ?_)
  generalize ([.ref o, .int p1] : List Value).toArray = args at C ⊢
  obtain ⟨Z, hZ⟩ : ∃ Z, Z = ZI E (w6 E o ad x) (r) A below args s 0 0 := ⟨_, rfl⟩
  rw [← hZ]
  have in6 : ∀ w ∈ wsX60, w ∈ wsX6_isTree := by decide +kernel
  have m81 : Cond.fieldLink RX6 81 "TurningTreesModel" "trees" "I" ∈ wsX6_isTree := by decide +kernel
  rw [fX6_isTree] at hf
  have h := hf
  refine xw_iload_n C dX6_isTree_0 rfl 1 rfl ?_
  refine xw_if_lt C 16 dX6_isTree_1 (by decide) (fun c1 => ?_) (fun c1 => ?_)
  · have h := px_t c1 h
    refine xw_iconst C (0) dX6_isTree_16 (by decide) ?_
    cases h
    rw [hZ]
    exact xw_zret C hr (Or.inl rfl) dX6_isTree_17
  · have h := px_f c1 h
    refine xw_iload_n C dX6_isTree_4 rfl 1 rfl ?_
    refine xw_aload_n C dX6_isTree_5 rfl 0 rfl ?_
    refine xw_get C in6 0 rfl rfl 1 (by decide) m81 rfl rfl dX6_isTree_6 ?_
    refine xw_icmp_ge C 16 dX6_isTree_9 (by decide) (fun c9 => ?_) (fun c9 => ?_)
    · have h := px_t c9 h
      refine xw_iconst C (0) dX6_isTree_16 (by decide) ?_
      cases h
      rw [hZ]
      exact xw_zret C hr (Or.inl rfl) dX6_isTree_17
    · have h := px_f c9 h
      refine xw_iconst C (1) dX6_isTree_12 (by decide) ?_
      refine xw_goto C 17 dX6_isTree_13 (by decide) ?_
      cases h
      rw [hZ]
      exact xw_zret C hr (Or.inr rfl) dX6_isTree_17
def fX6_isKey (p0 : Int32) : Option (Int32) :=
  (if p0 < 0 then
    some (0)
  else
    (if (64) ≤ p0 then
      some (0)
    else
      some (1)))
abbrev rmX6_isKey : Room := { frames := 0, cells := 0, slots := 0, locals := 0 }
set_option maxHeartbeats 4000000 in
set_option maxRecDepth 100000 in
theorem ok_X6_isKey {l : Launch} {E : En} {p0 : Int32} {r : Int32} (hf : fX6_isKey p0 = some r) : CI l yX6_isKey wsX6_isKey (rmX6_isKey) [.int p0] E ([]) ([]) (r) := by
  refine xc_I (by decide) rfl (Nat.le_of_ble_eq_true rfl) [(0, .int p0)] rfl (fun p e s m below meth c A C hr => ?_)
  generalize ([.int p0] : List Value).toArray = args at C ⊢
  obtain ⟨Z, hZ⟩ : ∃ Z, Z = ZI E ([]) (r) A below args s 0 0 := ⟨_, rfl⟩
  rw [← hZ]
  rw [fX6_isKey] at hf
  have h := hf
  refine xw_iload_n C dX6_isKey_0 rfl 0 rfl ?_
  refine xw_if_lt C 14 dX6_isKey_1 (by decide) (fun c1 => ?_) (fun c1 => ?_)
  · have h := px_t c1 h
    refine xw_iconst C (0) dX6_isKey_14 (by decide) ?_
    cases h
    rw [hZ]
    exact xw_zret C hr (Or.inl rfl) dX6_isKey_15
  · have h := px_f c1 h
    refine xw_iload_n C dX6_isKey_4 rfl 0 rfl ?_
    refine xw_bipush C (64) dX6_isKey_5 (by decide) ?_
    refine xw_icmp_ge C 14 dX6_isKey_7 (by decide) (fun c7 => ?_) (fun c7 => ?_)
    · have h := px_t c7 h
      refine xw_iconst C (0) dX6_isKey_14 (by decide) ?_
      cases h
      rw [hZ]
      exact xw_zret C hr (Or.inl rfl) dX6_isKey_15
    · have h := px_f c7 h
      refine xw_iconst C (1) dX6_isKey_10 (by decide) ?_
      refine xw_goto C 15 dX6_isKey_11 (by decide) ?_
      cases h
      rw [hZ]
      exact xw_zret C hr (Or.inr rfl) dX6_isKey_15
def fX6_newTree (p1 : Int32) (x : Ob) : Option (Int32 × Ob) :=
  ix (x.1 1) 8 (fun j9 =>
  px_let (ob_a x 2 j9 p1) (fun x_9 =>
  ix (x_9.1 1) 8 (fun j19 =>
  px_let (ob_a x_9 3 j19 (-1)) (fun x_19 =>
  px_let (ob_i x_19 1 ((x_19.1 1) + (1))) (fun x_27 =>
  some (((x_27.1 1) - (1)), x_27))))))
abbrev rmX6_newTree : Room := { frames := 0, cells := 0, slots := 0, locals := 0 }
set_option maxHeartbeats 4000000 in
set_option maxRecDepth 100000 in
theorem ok_X6_newTree {l : Launch} {E : En} {o : Nat} {ad : (Nat → Nat)} {p1 : Int32} {x : Ob} {r : Int32 × Ob} (hf : fX6_newTree p1 x = some r) : CI l yX6_newTree wsX6_newTree (rmX6_newTree) [.ref o, .int p1] E (w6 E o ad x) (w6 E o ad r.2) (r.1) := by
  refine xc_I (by decide) rfl (Nat.le_of_ble_eq_true rfl) [(0, .ref o), (1, .int p1)] rfl (fun p e s m below meth c A C hr => ?_)
  generalize ([.ref o, .int p1] : List Value).toArray = args at C ⊢
  obtain ⟨Z, hZ⟩ : ∃ Z, Z = ZI E (w6 E o ad r.2) (r.1) A below args s 0 0 := ⟨_, rfl⟩
  rw [← hZ]
  have in6 : ∀ w ∈ wsX60, w ∈ wsX6_newTree := by decide +kernel
  have m7 : Cond.fieldLink RX6 7 "TurningTreesModel" "kind" "[I" ∈ wsX6_newTree := by decide +kernel
  have m13 : Cond.fieldLink RX6 13 "TurningTreesModel" "root" "[I" ∈ wsX6_newTree := by decide +kernel
  have m81 : Cond.fieldLink RX6 81 "TurningTreesModel" "trees" "I" ∈ wsX6_newTree := by decide +kernel
  rw [fX6_newTree] at hf
  have h := hf
  refine xw_aload_n C dX6_newTree_0 rfl 0 rfl ?_
  refine xw_get C in6 0 rfl rfl 2 (by decide) m7 rfl rfl dX6_newTree_1 ?_
  refine xw_aload_n C dX6_newTree_4 rfl 0 rfl ?_
  refine xw_get C in6 0 rfl rfl 1 (by decide) m81 rfl rfl dX6_newTree_5 ?_
  refine xw_iload_n C dX6_newTree_8 rfl 1 rfl ?_
  obtain ⟨g9, h⟩ := px_x h
  refine px_n h (fun x_9 ex_9 h => ?_)
  refine xw_iast (w' := w6 E o ad x_9) C 1 rfl g9 (by rw [ex_9]; rfl) dX6_newTree_9 ?_
  refine xw_aload_n C dX6_newTree_10 rfl 0 rfl ?_
  refine xw_get C in6 0 rfl rfl 3 (by decide) m13 rfl rfl dX6_newTree_11 ?_
  refine xw_aload_n C dX6_newTree_14 rfl 0 rfl ?_
  refine xw_get C in6 0 rfl rfl 1 (by decide) m81 rfl rfl dX6_newTree_15 ?_
  refine xw_iconst C (-1) dX6_newTree_18 (by decide) ?_
  obtain ⟨g19, h⟩ := px_x h
  refine px_n h (fun x_19 ex_19 h => ?_)
  refine xw_iast (w' := w6 E o ad x_19) C 2 rfl g19 (by rw [ex_19]; rfl) dX6_newTree_19 ?_
  refine xw_aload_n C dX6_newTree_20 rfl 0 rfl ?_
  refine xw_dup C dX6_newTree_21 rfl ?_
  refine xw_get C in6 0 rfl rfl 1 (by decide) m81 rfl rfl dX6_newTree_22 ?_
  refine xw_iconst C (1) dX6_newTree_25 (by decide) ?_
  refine xw_iadd C dX6_newTree_26 ?_
  refine px_n h (fun x_27 ex_27 h => ?_)
  refine xw_put (w' := w6 E o ad x_27) C in6 tyX6 tyX6_ok nmX6 0 rfl rfl 1 (by decide) m81 rfl rfl rfl (Nat.le_of_ble_eq_true rfl) (by rw [ex_27]; rfl) dX6_newTree_27 ?_
  refine xw_aload_n C dX6_newTree_30 rfl 0 rfl ?_
  refine xw_get C in6 0 rfl rfl 1 (by decide) m81 rfl rfl dX6_newTree_31 ?_
  refine xw_iconst C (1) dX6_newTree_34 (by decide) ?_
  refine xw_isub C dX6_newTree_35 ?_
  cases h
  rw [hZ]
  exact xw_iret C hr dX6_newTree_36
def fX6_tree (p1 : Int32) (x : Ob) : Option (Int32 × Ob) :=
  px_let (ob_i x 0 (0)) (fun x_2 =>
  (if p1 < 0 then
    some ((-1), x_2)
  else
    (if (5) < p1 then
      some ((-1), x_2)
    else
      (if (x_2.1 1) = (8) then
        some ((-1), x_2)
      else
        Option.bind (fX6_newTree p1 x_2) (fun q27 =>
        some (q27.1, q27.2))))))
abbrev rmX6_tree : Room := { frames := 1, cells := 0, slots := 0, locals := 21 }
set_option maxHeartbeats 4000000 in
set_option maxRecDepth 100000 in
theorem ok_X6_tree {l : Launch} {E : En} {o : Nat} {ad : (Nat → Nat)} {p1 : Int32} {x : Ob} {r : Int32 × Ob} (hf : fX6_tree p1 x = some r) : CI l yX6_tree wsX6_tree (rmX6_tree) [.ref o, .int p1] E (w6 E o ad x) (w6 E o ad r.2) (r.1) := by
  refine xc_I (by decide) rfl (Nat.le_of_ble_eq_true rfl) [(0, .ref o), (1, .int p1)] rfl (fun p e s m below meth c A C hr => ?_)
  generalize ([.ref o, .int p1] : List Value).toArray = args at C ⊢
  obtain ⟨Z, hZ⟩ : ∃ Z, Z = ZI E (w6 E o ad r.2) (r.1) A below args s 0 0 := ⟨_, rfl⟩
  rw [← hZ]
  have in6 : ∀ w ∈ wsX60, w ∈ wsX6_tree := by decide +kernel
  have m77 : Cond.fieldLink RX6 77 "TurningTreesModel" "thrown" "I" ∈ wsX6_tree := by decide +kernel
  have m81 : Cond.fieldLink RX6 81 "TurningTreesModel" "trees" "I" ∈ wsX6_tree := by decide +kernel
  rw [fX6_tree] at hf
  have h := hf
  refine xw_aload_n C dX6_tree_0 rfl 0 rfl ?_
  refine xw_iconst C (0) dX6_tree_1 (by decide) ?_
  refine px_n h (fun x_2 ex_2 h => ?_)
  refine xw_put (w' := w6 E o ad x_2) C in6 tyX6 tyX6_ok nmX6 0 rfl rfl 0 (by decide) m77 rfl rfl rfl (Nat.le_of_ble_eq_true rfl) (by rw [ex_2]; rfl) dX6_tree_2 ?_
  refine xw_iload_n C dX6_tree_5 rfl 1 rfl ?_
  refine xw_if_lt C 23 dX6_tree_6 (by decide) (fun c6 => ?_) (fun c6 => ?_)
  · have h := px_t c6 h
    refine xw_iconst C (-1) dX6_tree_23 (by decide) ?_
    cases h
    rw [hZ]
    exact xw_iret C hr dX6_tree_24
  · have h := px_f c6 h
    refine xw_iload_n C dX6_tree_9 rfl 1 rfl ?_
    refine xw_iconst C (5) dX6_tree_10 (by decide) ?_
    refine xw_icmp_gt C 23 dX6_tree_11 (by decide) (fun c11 => ?_) (fun c11 => ?_)
    · have h := px_t c11 h
      refine xw_iconst C (-1) dX6_tree_23 (by decide) ?_
      cases h
      rw [hZ]
      exact xw_iret C hr dX6_tree_24
    · have h := px_f c11 h
      refine xw_aload_n C dX6_tree_14 rfl 0 rfl ?_
      refine xw_get C in6 0 rfl rfl 1 (by decide) m81 rfl rfl dX6_tree_15 ?_
      refine xw_bipush C (8) dX6_tree_18 (by decide) ?_
      refine xw_icmp_ne C 25 dX6_tree_20 (by decide) (fun c20 => ?_) (fun c20 => ?_)
      · have h := px_f c20 h
        refine xw_aload_n C dX6_tree_25 rfl 0 rfl ?_
        refine xw_iload_n C dX6_tree_26 rfl 1 rfl ?_
        obtain ⟨q27, eq27, h⟩ := px_b h
        refine xw_callVI (w' := w6 E o ad q27.2) (u := []) (v := []) C (ok_X6_newTree (o := o) (ad := ad) (x := x_2) eq27) 1 gX6_tree_X6_newTree rfl ⟨rfl, rfl⟩ (by decide +kernel) ⟨Nat.le_of_ble_eq_true rfl, Nat.le_of_ble_eq_true rfl⟩ 0 6 rfl rfl rfl (Nat.le_of_ble_eq_true rfl) ⟨Nat.zero_le _, Nat.zero_le _⟩ rfl xe0 xe0.symm dX6_tree_27 ?_
        cases h
        rw [hZ]
        exact xw_iret C hr dX6_tree_30
      · have h := px_t c20 h
        refine xw_iconst C (-1) dX6_tree_23 (by decide) ?_
        cases h
        rw [hZ]
        exact xw_iret C hr dX6_tree_24
def fX6_weight (p0 : Int32) : Option (Int32) :=
  some ((((37) * p0) + (11)) - (((37) * p0) + (11)) / (64) * (64))
abbrev rmX6_weight : Room := { frames := 0, cells := 0, slots := 0, locals := 0 }
set_option maxHeartbeats 4000000 in
set_option maxRecDepth 100000 in
theorem ok_X6_weight {l : Launch} {E : En} {p0 : Int32} {r : Int32} (hf : fX6_weight p0 = some r) : CI l yX6_weight wsX6_weight (rmX6_weight) [.int p0] E ([]) ([]) (r) := by
  refine xc_I (by decide) rfl (Nat.le_of_ble_eq_true rfl) [(0, .int p0)] rfl (fun p e s m below meth c A C hr => ?_)
  generalize ([.int p0] : List Value).toArray = args at C ⊢
  obtain ⟨Z, hZ⟩ : ∃ Z, Z = ZI E ([]) (r) A below args s 0 0 := ⟨_, rfl⟩
  rw [← hZ]
  rw [fX6_weight] at hf
  have h := hf
  refine xw_bipush C (37) dX6_weight_0 (by decide) ?_
  refine xw_iload_n C dX6_weight_2 rfl 0 rfl ?_
  refine xw_imul C dX6_weight_3 ?_
  refine xw_bipush C (11) dX6_weight_4 (by decide) ?_
  refine xw_iadd C dX6_weight_6 ?_
  refine xw_bipush C (64) dX6_weight_7 (by decide) ?_
  refine xw_irem C dX6_weight_9 (by decide) ?_
  cases h
  rw [hZ]
  exact xw_iret C hr dX6_weight_10
def fX6_sizeOf : Nat → Int32 → Int32 → Ob → Option (Int32)
  | 0, _, _, _ => none
  | d + 1, p1, p2, x =>
  (if 0 ≤ p2 then
    ix (((64) * p1) + p2) 512 (fun j21 =>
    Option.bind (fX6_sizeOf d p1 (x.2 5 j21) x) (fun q22 =>
    ix (((64) * p1) + p2) 512 (fun j38 =>
    Option.bind (fX6_sizeOf d p1 (x.2 6 j38) x) (fun q39 =>
    some (((1) + q22) + q39)))))
  else
    some (0))
abbrev rmX6_sizeOf (d : Nat) : Room := { frames := d + 0, cells := 0, slots := 0, locals := d * 22 + 0 }
set_option maxHeartbeats 4000000 in
set_option maxRecDepth 100000 in
theorem ok_X6_sizeOf {l : Launch} {E : En} {o : Nat} {ad : (Nat → Nat)} : ∀ (d : Nat) {p1 : Int32} {p2 : Int32} {x : Ob} {r : Int32}, fX6_sizeOf d p1 p2 x = some r → CI l yX6_sizeOf wsX6_sizeOf (rmX6_sizeOf d) [.ref o, .int p1, .int p2] E (w6 E o ad x) (w6 E o ad x) (r) := by
  intro d
  induction d with
  | zero =>
    intro p1 p2 x r hf
    rw [fX6_sizeOf] at hf
    cases hf
  | succ d ih =>
    intro p1 p2 x r hf
    refine xc_I (by decide) rfl (Nat.le_of_ble_eq_true rfl) [(0, .ref o), (1, .int p1), (2, .int p2)] rfl (fun p e s m below meth c A C hr => ?_)
    generalize ([.ref o, .int p1, .int p2] : List Value).toArray = args at C ⊢
    obtain ⟨Z, hZ⟩ : ∃ Z, Z = ZI E (w6 E o ad x) (r) A below args s 0 0 := ⟨_, rfl⟩
    rw [← hZ]
    have in6 : ∀ w ∈ wsX60, w ∈ wsX6_sizeOf := by decide +kernel
    have m19 : Cond.fieldLink RX6 19 "TurningTreesModel" "left" "[I" ∈ wsX6_sizeOf := by decide +kernel
    have m22 : Cond.fieldLink RX6 22 "TurningTreesModel" "right" "[I" ∈ wsX6_sizeOf := by decide +kernel
    rw [fX6_sizeOf] at hf
    have h := hf
    refine xw_iload_n C dX6_sizeOf_0 rfl 2 rfl ?_
    refine xw_if_ge C 8 dX6_sizeOf_1 (by decide) (fun c1 => ?_) (fun c1 => ?_)
    · have h := px_t c1 h
      refine xw_iconst C (1) dX6_sizeOf_8 (by decide) ?_
      refine xw_aload_n C dX6_sizeOf_9 rfl 0 rfl ?_
      refine xw_iload_n C dX6_sizeOf_10 rfl 1 rfl ?_
      refine xw_aload_n C dX6_sizeOf_11 rfl 0 rfl ?_
      refine xw_get C in6 0 rfl rfl 5 (by decide) m19 rfl rfl dX6_sizeOf_12 ?_
      refine xw_bipush C (64) dX6_sizeOf_15 (by decide) ?_
      refine xw_iload_n C dX6_sizeOf_17 rfl 1 rfl ?_
      refine xw_imul C dX6_sizeOf_18 ?_
      refine xw_iload_n C dX6_sizeOf_19 rfl 2 rfl ?_
      refine xw_iadd C dX6_sizeOf_20 ?_
      obtain ⟨g21, h⟩ := px_x h
      refine xw_iald C 4 rfl g21 dX6_sizeOf_21 ?_
      obtain ⟨q22, eq22, h⟩ := px_b h
      refine xw_callVI (w' := w6 E o ad x) (u := []) (v := []) C (ih eq22) 2 gX6_sizeOf_X6_sizeOf rfl ⟨rfl, rfl⟩ (by decide +kernel) ⟨by show d + 0 + 1 ≤ d + 1 + 0; omega, by show 8 + (3 + 11) + (d * 22 + 0) ≤ (d + 1) * 22 + 0; omega⟩ 0 6 rfl rfl rfl (Nat.le_of_ble_eq_true rfl) ⟨Nat.zero_le _, Nat.zero_le _⟩ rfl xe0 xe0.symm dX6_sizeOf_22 ?_
      refine xw_iadd C dX6_sizeOf_25 ?_
      refine xw_aload_n C dX6_sizeOf_26 rfl 0 rfl ?_
      refine xw_iload_n C dX6_sizeOf_27 rfl 1 rfl ?_
      refine xw_aload_n C dX6_sizeOf_28 rfl 0 rfl ?_
      refine xw_get C in6 0 rfl rfl 6 (by decide) m22 rfl rfl dX6_sizeOf_29 ?_
      refine xw_bipush C (64) dX6_sizeOf_32 (by decide) ?_
      refine xw_iload_n C dX6_sizeOf_34 rfl 1 rfl ?_
      refine xw_imul C dX6_sizeOf_35 ?_
      refine xw_iload_n C dX6_sizeOf_36 rfl 2 rfl ?_
      refine xw_iadd C dX6_sizeOf_37 ?_
      obtain ⟨g38, h⟩ := px_x h
      refine xw_iald C 5 rfl g38 dX6_sizeOf_38 ?_
      obtain ⟨q39, eq39, h⟩ := px_b h
      refine xw_callVI (w' := w6 E o ad x) (u := []) (v := []) C (ih eq39) 2 gX6_sizeOf_X6_sizeOf rfl ⟨rfl, rfl⟩ (by decide +kernel) ⟨by show d + 0 + 1 ≤ d + 1 + 0; omega, by show 8 + (3 + 11) + (d * 22 + 0) ≤ (d + 1) * 22 + 0; omega⟩ 0 6 rfl rfl rfl (Nat.le_of_ble_eq_true rfl) ⟨Nat.zero_le _, Nat.zero_le _⟩ rfl xe0 xe0.symm dX6_sizeOf_39 ?_
      refine xw_iadd C dX6_sizeOf_42 ?_
      cases h
      rw [hZ]
      exact xw_iret C hr dX6_sizeOf_43
    · have h := px_f c1 h
      refine xw_iconst C (0) dX6_sizeOf_4 (by decide) ?_
      refine xw_goto C 43 dX6_sizeOf_5 (by decide) ?_
      cases h
      rw [hZ]
      exact xw_iret C hr dX6_sizeOf_43
def fX6_depthOf_L15 : Nat → Int32 → Int32 → Int32 → Ob → Option (Int32)
  | 0, _, _, _, _ => none
  | n + 1, v1, v3, v4, x =>
  (if v4 < 0 then
    some v3
  else
    px_let (v3 + (1) : Int32) (fun b20 =>
    ix (((64) * v1) + v4) 512 (fun j34 =>
    px_let ((x.2 4 j34) : Int32) (fun b35 =>
    fX6_depthOf_L15 n v1 b20 b35 x))))
def fX6_depthOf (p1 : Int32) (p2 : Int32) (x : Ob) : Option (Int32) :=
  ix (((64) * p1) + p2) 512 (fun j12 =>
  px_let ((x.2 4 j12) : Int32) (fun b13 =>
  fX6_depthOf_L15 FU p1 (1) b13 x))
abbrev rmX6_depthOf : Room := { frames := 0, cells := 0, slots := 0, locals := 0 }
set_option maxHeartbeats 4000000 in
set_option maxRecDepth 100000 in
theorem ok_X6_depthOf {l : Launch} {E : En} {o : Nat} {ad : (Nat → Nat)} {p1 : Int32} {p2 : Int32} {x : Ob} {r : Int32} (hf : fX6_depthOf p1 p2 x = some r) : CI l yX6_depthOf wsX6_depthOf (rmX6_depthOf) [.ref o, .int p1, .int p2] E (w6 E o ad x) (w6 E o ad x) (r) := by
  refine xc_I (by decide) rfl (Nat.le_of_ble_eq_true rfl) [(0, .ref o), (1, .int p1), (2, .int p2)] rfl (fun p e s m below meth c A C hr => ?_)
  generalize ([.ref o, .int p1, .int p2] : List Value).toArray = args at C ⊢
  obtain ⟨Z, hZ⟩ : ∃ Z, Z = ZI E (w6 E o ad x) (r) A below args s 0 0 := ⟨_, rfl⟩
  rw [← hZ]
  have in6 : ∀ w ∈ wsX60, w ∈ wsX6_depthOf := by decide +kernel
  have m16 : Cond.fieldLink RX6 16 "TurningTreesModel" "above" "[I" ∈ wsX6_depthOf := by decide +kernel
  have hL15 : ∀ n : Nat, ∀ (v1 : Int32), ∀ (v3 : Int32), ∀ (v4 : Int32), fX6_depthOf_L15 n v1 v3 v4 x = some r → XW E p l e rmX6_depthOf s m args below meth c Z A 0 0 (w6 E o ad x) 15 5 [(0, .ref o), (1, .int v1), (3, .int v3), (4, .int v4)] [] := by
    intro n
    induction n with
    | zero =>
      intro v1 v3 v4 h
      rw [fX6_depthOf_L15] at h
      cases h
    | succ n ih =>
      intro v1 v3 v4 h
      rw [fX6_depthOf_L15] at h
      refine xw_iload C dX6_depthOf_15 3 rfl ?_
      refine xw_if_lt C 40 dX6_depthOf_17 (by decide) (fun c17 => ?_) (fun c17 => ?_)
      · have h := px_t c17 h
        refine xw_iload_n C dX6_depthOf_40 rfl 2 rfl ?_
        cases h
        rw [hZ]
        exact xw_iret C hr dX6_depthOf_41
      · have h := px_f c17 h
        refine px_n h (fun b20 eb20 h => ?_)
        refine xw_iinc (v := b20) C dX6_depthOf_20 2 rfl eb20 (by decide) (lv' := [(3, .int b20), (0, .ref o), (1, .int v1), (4, .int v4)]) rfl ?_
        refine xw_aload_n C dX6_depthOf_23 rfl 1 rfl ?_
        refine xw_get C in6 0 rfl rfl 4 (by decide) m16 rfl rfl dX6_depthOf_24 ?_
        refine xw_bipush C (64) dX6_depthOf_27 (by decide) ?_
        refine xw_iload_n C dX6_depthOf_29 rfl 2 rfl ?_
        refine xw_imul C dX6_depthOf_30 ?_
        refine xw_iload C dX6_depthOf_31 3 rfl ?_
        refine xw_iadd C dX6_depthOf_33 ?_
        obtain ⟨g34, h⟩ := px_x h
        refine xw_iald C 3 rfl g34 dX6_depthOf_34 ?_
        refine xw_topi (fun b35 eb35 => ?_)
        have h := px_v h b35 eb35
        refine xw_istore C dX6_depthOf_35 (by decide) (lv' := [(4, .int b35), (3, .int b20), (0, .ref o), (1, .int v1)]) rfl ?_
        refine xw_goto C 15 dX6_depthOf_37 (by decide) ?_
        refine xw_perm [2, 3, 1, 0] rfl ?_
        exact ih _ _ _ h
  rw [fX6_depthOf] at hf
  have h := hf
  refine xw_iconst C (1) dX6_depthOf_0 (by decide) ?_
  refine xw_istore_n C dX6_depthOf_1 rfl (by decide) (lv' := [(3, .int (1)), (0, .ref o), (1, .int p1), (2, .int p2)]) rfl ?_
  refine xw_aload_n C dX6_depthOf_2 rfl 1 rfl ?_
  refine xw_get C in6 0 rfl rfl 4 (by decide) m16 rfl rfl dX6_depthOf_3 ?_
  refine xw_bipush C (64) dX6_depthOf_6 (by decide) ?_
  refine xw_iload_n C dX6_depthOf_8 rfl 2 rfl ?_
  refine xw_imul C dX6_depthOf_9 ?_
  refine xw_iload_n C dX6_depthOf_10 rfl 3 rfl ?_
  refine xw_iadd C dX6_depthOf_11 ?_
  obtain ⟨g12, h⟩ := px_x h
  refine xw_iald C 3 rfl g12 dX6_depthOf_12 ?_
  refine xw_topi (fun b13 eb13 => ?_)
  have h := px_v h b13 eb13
  refine xw_istore C dX6_depthOf_13 (by decide) (lv' := [(4, .int b13), (3, .int (1)), (0, .ref o), (1, .int p1), (2, .int p2)]) rfl ?_
  refine xw_perm [2, 3, 1, 0] rfl ?_
  exact hL15 _ _ _ _ h
def fX6_takesPlace_J73 (v1 : Int32) (v3 : Int32) (v4 : Int32) (x : Ob) : Option (Ob) :=
  (if v3 < 0 then
    some x
  else
    ix (((64) * v1) + v3) 512 (fun j89 =>
    px_let (ob_a x 4 j89 v4) (fun x_89 =>
    some x_89)))
def fX6_takesPlace (p1 : Int32) (p2 : Int32) (p3 : Int32) (x : Ob) : Option (Ob) :=
  ix (((64) * p1) + p2) 512 (fun j10 =>
  px_let ((x.2 4 j10) : Int32) (fun b11 =>
  (if 0 ≤ b11 then
    ix (((64) * p1) + b11) 512 (fun j39 =>
    (if (x.2 5 j39) = p2 then
      ix (((64) * p1) + b11) 512 (fun j56 =>
      px_let (ob_a x 5 j56 p3) (fun x_56 =>
      fX6_takesPlace_J73 p1 p3 b11 x_56))
    else
      ix (((64) * p1) + b11) 512 (fun j72 =>
      px_let (ob_a x 6 j72 p3) (fun x_72 =>
      fX6_takesPlace_J73 p1 p3 b11 x_72))))
  else
    ix p1 8 (fun j24 =>
    px_let (ob_a x 3 j24 p3) (fun x_24 =>
    fX6_takesPlace_J73 p1 p3 b11 x_24)))))
abbrev rmX6_takesPlace : Room := { frames := 0, cells := 0, slots := 0, locals := 0 }
set_option maxHeartbeats 4000000 in
set_option maxRecDepth 100000 in
theorem ok_X6_takesPlace {l : Launch} {E : En} {o : Nat} {ad : (Nat → Nat)} {p1 : Int32} {p2 : Int32} {p3 : Int32} {x : Ob} {r : Ob} (hf : fX6_takesPlace p1 p2 p3 x = some r) : CV l yX6_takesPlace wsX6_takesPlace (rmX6_takesPlace) [.ref o, .int p1, .int p2, .int p3] E (w6 E o ad x) (w6 E o ad r) := by
  refine xc_V (by decide) rfl (Nat.le_of_ble_eq_true rfl) [(0, .ref o), (1, .int p1), (2, .int p2), (3, .int p3)] rfl (fun p e s m below meth c A C hr => ?_)
  generalize ([.ref o, .int p1, .int p2, .int p3] : List Value).toArray = args at C ⊢
  obtain ⟨Z, hZ⟩ : ∃ Z, Z = ZV E (w6 E o ad r) A below args s 0 0 := ⟨_, rfl⟩
  rw [← hZ]
  have in6 : ∀ w ∈ wsX60, w ∈ wsX6_takesPlace := by decide +kernel
  have m13 : Cond.fieldLink RX6 13 "TurningTreesModel" "root" "[I" ∈ wsX6_takesPlace := by decide +kernel
  have m16 : Cond.fieldLink RX6 16 "TurningTreesModel" "above" "[I" ∈ wsX6_takesPlace := by decide +kernel
  have m19 : Cond.fieldLink RX6 19 "TurningTreesModel" "left" "[I" ∈ wsX6_takesPlace := by decide +kernel
  have m22 : Cond.fieldLink RX6 22 "TurningTreesModel" "right" "[I" ∈ wsX6_takesPlace := by decide +kernel
  have hJ73 : ∀ (v1 : Int32), ∀ (v3 : Int32), ∀ (v4 : Int32), ∀ (x : Ob), fX6_takesPlace_J73 v1 v3 v4 x = some r → XW E p l e rmX6_takesPlace s m args below meth c Z A 0 0 (w6 E o ad x) 73 5 [(0, .ref o), (1, .int v1), (3, .int v3), (4, .int v4)] [] := by
    intro v1 v3 v4 x h
    rw [fX6_takesPlace_J73] at h
    refine xw_iload_n C dX6_takesPlace_73 rfl 2 rfl ?_
    refine xw_if_lt C 90 dX6_takesPlace_74 (by decide) (fun c74 => ?_) (fun c74 => ?_)
    · have h := px_t c74 h
      cases h
      rw [hZ]
      exact xw_vret C hr dX6_takesPlace_90
    · have h := px_f c74 h
      refine xw_aload_n C dX6_takesPlace_77 rfl 0 rfl ?_
      refine xw_get C in6 0 rfl rfl 4 (by decide) m16 rfl rfl dX6_takesPlace_78 ?_
      refine xw_bipush C (64) dX6_takesPlace_81 (by decide) ?_
      refine xw_iload_n C dX6_takesPlace_83 rfl 1 rfl ?_
      refine xw_imul C dX6_takesPlace_84 ?_
      refine xw_iload_n C dX6_takesPlace_85 rfl 2 rfl ?_
      refine xw_iadd C dX6_takesPlace_86 ?_
      refine xw_iload C dX6_takesPlace_87 3 rfl ?_
      obtain ⟨g89, h⟩ := px_x h
      refine px_n h (fun x_89 ex_89 h => ?_)
      refine xw_iast (w' := w6 E o ad x_89) C 3 rfl g89 (by rw [ex_89]; rfl) dX6_takesPlace_89 ?_
      cases h
      rw [hZ]
      exact xw_vret C hr dX6_takesPlace_90
  rw [fX6_takesPlace] at hf
  have h := hf
  refine xw_aload_n C dX6_takesPlace_0 rfl 0 rfl ?_
  refine xw_get C in6 0 rfl rfl 4 (by decide) m16 rfl rfl dX6_takesPlace_1 ?_
  refine xw_bipush C (64) dX6_takesPlace_4 (by decide) ?_
  refine xw_iload_n C dX6_takesPlace_6 rfl 1 rfl ?_
  refine xw_imul C dX6_takesPlace_7 ?_
  refine xw_iload_n C dX6_takesPlace_8 rfl 2 rfl ?_
  refine xw_iadd C dX6_takesPlace_9 ?_
  obtain ⟨g10, h⟩ := px_x h
  refine xw_iald C 3 rfl g10 dX6_takesPlace_10 ?_
  refine xw_topi (fun b11 eb11 => ?_)
  have h := px_v h b11 eb11
  refine xw_istore C dX6_takesPlace_11 (by decide) (lv' := [(4, .int b11), (0, .ref o), (1, .int p1), (2, .int p2), (3, .int p3)]) rfl ?_
  refine xw_iload C dX6_takesPlace_13 0 rfl ?_
  refine xw_if_ge C 28 dX6_takesPlace_15 (by decide) (fun c15 => ?_) (fun c15 => ?_)
  · have h := px_t c15 h
    refine xw_aload_n C dX6_takesPlace_28 rfl 1 rfl ?_
    refine xw_get C in6 0 rfl rfl 5 (by decide) m19 rfl rfl dX6_takesPlace_29 ?_
    refine xw_bipush C (64) dX6_takesPlace_32 (by decide) ?_
    refine xw_iload_n C dX6_takesPlace_34 rfl 2 rfl ?_
    refine xw_imul C dX6_takesPlace_35 ?_
    refine xw_iload C dX6_takesPlace_36 0 rfl ?_
    refine xw_iadd C dX6_takesPlace_38 ?_
    obtain ⟨g39, h⟩ := px_x h
    refine xw_iald C 4 rfl g39 dX6_takesPlace_39 ?_
    refine xw_iload_n C dX6_takesPlace_40 rfl 3 rfl ?_
    refine xw_icmp_ne C 60 dX6_takesPlace_41 (by decide) (fun c41 => ?_) (fun c41 => ?_)
    · have h := px_f c41 h
      refine xw_aload_n C dX6_takesPlace_60 rfl 1 rfl ?_
      refine xw_get C in6 0 rfl rfl 6 (by decide) m22 rfl rfl dX6_takesPlace_61 ?_
      refine xw_bipush C (64) dX6_takesPlace_64 (by decide) ?_
      refine xw_iload_n C dX6_takesPlace_66 rfl 2 rfl ?_
      refine xw_imul C dX6_takesPlace_67 ?_
      refine xw_iload C dX6_takesPlace_68 0 rfl ?_
      refine xw_iadd C dX6_takesPlace_70 ?_
      refine xw_iload_n C dX6_takesPlace_71 rfl 4 rfl ?_
      obtain ⟨g72, h⟩ := px_x h
      refine px_n h (fun x_72 ex_72 h => ?_)
      refine xw_iast (w' := w6 E o ad x_72) C 5 rfl g72 (by rw [ex_72]; rfl) dX6_takesPlace_72 ?_
      refine xw_perm [1, 2, 4, 0] rfl ?_
      exact hJ73 _ _ _ _ h
    · have h := px_t c41 h
      refine xw_aload_n C dX6_takesPlace_44 rfl 1 rfl ?_
      refine xw_get C in6 0 rfl rfl 5 (by decide) m19 rfl rfl dX6_takesPlace_45 ?_
      refine xw_bipush C (64) dX6_takesPlace_48 (by decide) ?_
      refine xw_iload_n C dX6_takesPlace_50 rfl 2 rfl ?_
      refine xw_imul C dX6_takesPlace_51 ?_
      refine xw_iload C dX6_takesPlace_52 0 rfl ?_
      refine xw_iadd C dX6_takesPlace_54 ?_
      refine xw_iload_n C dX6_takesPlace_55 rfl 4 rfl ?_
      obtain ⟨g56, h⟩ := px_x h
      refine px_n h (fun x_56 ex_56 h => ?_)
      refine xw_iast (w' := w6 E o ad x_56) C 4 rfl g56 (by rw [ex_56]; rfl) dX6_takesPlace_56 ?_
      refine xw_goto C 73 dX6_takesPlace_57 (by decide) ?_
      refine xw_perm [1, 2, 4, 0] rfl ?_
      exact hJ73 _ _ _ _ h
  · have h := px_f c15 h
    refine xw_aload_n C dX6_takesPlace_18 rfl 1 rfl ?_
    refine xw_get C in6 0 rfl rfl 3 (by decide) m13 rfl rfl dX6_takesPlace_19 ?_
    refine xw_iload_n C dX6_takesPlace_22 rfl 2 rfl ?_
    refine xw_iload_n C dX6_takesPlace_23 rfl 4 rfl ?_
    obtain ⟨g24, h⟩ := px_x h
    refine px_n h (fun x_24 ex_24 h => ?_)
    refine xw_iast (w' := w6 E o ad x_24) C 2 rfl g24 (by rw [ex_24]; rfl) dX6_takesPlace_24 ?_
    refine xw_goto C 73 dX6_takesPlace_25 (by decide) ?_
    refine xw_perm [1, 2, 4, 0] rfl ?_
    exact hJ73 _ _ _ _ h
def fX6_hangsLeft (p1 : Int32) (p2 : Int32) (p3 : Int32) (x : Ob) : Option (Ob) :=
  ix (((64) * p1) + p3) 512 (fun j11 =>
  px_let (ob_a x 5 j11 p2) (fun x_11 =>
  (if p2 < 0 then
    some x_11
  else
    ix (((64) * p1) + p2) 512 (fun j27 =>
    px_let (ob_a x_11 4 j27 p3) (fun x_27 =>
    some x_27)))))
abbrev rmX6_hangsLeft : Room := { frames := 0, cells := 0, slots := 0, locals := 0 }
set_option maxHeartbeats 4000000 in
set_option maxRecDepth 100000 in
theorem ok_X6_hangsLeft {l : Launch} {E : En} {o : Nat} {ad : (Nat → Nat)} {p1 : Int32} {p2 : Int32} {p3 : Int32} {x : Ob} {r : Ob} (hf : fX6_hangsLeft p1 p2 p3 x = some r) : CV l yX6_hangsLeft wsX6_hangsLeft (rmX6_hangsLeft) [.ref o, .int p1, .int p2, .int p3] E (w6 E o ad x) (w6 E o ad r) := by
  refine xc_V (by decide) rfl (Nat.le_of_ble_eq_true rfl) [(0, .ref o), (1, .int p1), (2, .int p2), (3, .int p3)] rfl (fun p e s m below meth c A C hr => ?_)
  generalize ([.ref o, .int p1, .int p2, .int p3] : List Value).toArray = args at C ⊢
  obtain ⟨Z, hZ⟩ : ∃ Z, Z = ZV E (w6 E o ad r) A below args s 0 0 := ⟨_, rfl⟩
  rw [← hZ]
  have in6 : ∀ w ∈ wsX60, w ∈ wsX6_hangsLeft := by decide +kernel
  have m16 : Cond.fieldLink RX6 16 "TurningTreesModel" "above" "[I" ∈ wsX6_hangsLeft := by decide +kernel
  have m19 : Cond.fieldLink RX6 19 "TurningTreesModel" "left" "[I" ∈ wsX6_hangsLeft := by decide +kernel
  rw [fX6_hangsLeft] at hf
  have h := hf
  refine xw_aload_n C dX6_hangsLeft_0 rfl 0 rfl ?_
  refine xw_get C in6 0 rfl rfl 5 (by decide) m19 rfl rfl dX6_hangsLeft_1 ?_
  refine xw_bipush C (64) dX6_hangsLeft_4 (by decide) ?_
  refine xw_iload_n C dX6_hangsLeft_6 rfl 1 rfl ?_
  refine xw_imul C dX6_hangsLeft_7 ?_
  refine xw_iload_n C dX6_hangsLeft_8 rfl 3 rfl ?_
  refine xw_iadd C dX6_hangsLeft_9 ?_
  refine xw_iload_n C dX6_hangsLeft_10 rfl 2 rfl ?_
  obtain ⟨g11, h⟩ := px_x h
  refine px_n h (fun x_11 ex_11 h => ?_)
  refine xw_iast (w' := w6 E o ad x_11) C 4 rfl g11 (by rw [ex_11]; rfl) dX6_hangsLeft_11 ?_
  refine xw_iload_n C dX6_hangsLeft_12 rfl 2 rfl ?_
  refine xw_if_lt C 28 dX6_hangsLeft_13 (by decide) (fun c13 => ?_) (fun c13 => ?_)
  · have h := px_t c13 h
    cases h
    rw [hZ]
    exact xw_vret C hr dX6_hangsLeft_28
  · have h := px_f c13 h
    refine xw_aload_n C dX6_hangsLeft_16 rfl 0 rfl ?_
    refine xw_get C in6 0 rfl rfl 4 (by decide) m16 rfl rfl dX6_hangsLeft_17 ?_
    refine xw_bipush C (64) dX6_hangsLeft_20 (by decide) ?_
    refine xw_iload_n C dX6_hangsLeft_22 rfl 1 rfl ?_
    refine xw_imul C dX6_hangsLeft_23 ?_
    refine xw_iload_n C dX6_hangsLeft_24 rfl 2 rfl ?_
    refine xw_iadd C dX6_hangsLeft_25 ?_
    refine xw_iload_n C dX6_hangsLeft_26 rfl 3 rfl ?_
    obtain ⟨g27, h⟩ := px_x h
    refine px_n h (fun x_27 ex_27 h => ?_)
    refine xw_iast (w' := w6 E o ad x_27) C 3 rfl g27 (by rw [ex_27]; rfl) dX6_hangsLeft_27 ?_
    cases h
    rw [hZ]
    exact xw_vret C hr dX6_hangsLeft_28
def fX6_hangsRight (p1 : Int32) (p2 : Int32) (p3 : Int32) (x : Ob) : Option (Ob) :=
  ix (((64) * p1) + p3) 512 (fun j11 =>
  px_let (ob_a x 6 j11 p2) (fun x_11 =>
  (if p2 < 0 then
    some x_11
  else
    ix (((64) * p1) + p2) 512 (fun j27 =>
    px_let (ob_a x_11 4 j27 p3) (fun x_27 =>
    some x_27)))))
abbrev rmX6_hangsRight : Room := { frames := 0, cells := 0, slots := 0, locals := 0 }
set_option maxHeartbeats 4000000 in
set_option maxRecDepth 100000 in
theorem ok_X6_hangsRight {l : Launch} {E : En} {o : Nat} {ad : (Nat → Nat)} {p1 : Int32} {p2 : Int32} {p3 : Int32} {x : Ob} {r : Ob} (hf : fX6_hangsRight p1 p2 p3 x = some r) : CV l yX6_hangsRight wsX6_hangsRight (rmX6_hangsRight) [.ref o, .int p1, .int p2, .int p3] E (w6 E o ad x) (w6 E o ad r) := by
  refine xc_V (by decide) rfl (Nat.le_of_ble_eq_true rfl) [(0, .ref o), (1, .int p1), (2, .int p2), (3, .int p3)] rfl (fun p e s m below meth c A C hr => ?_)
  generalize ([.ref o, .int p1, .int p2, .int p3] : List Value).toArray = args at C ⊢
  obtain ⟨Z, hZ⟩ : ∃ Z, Z = ZV E (w6 E o ad r) A below args s 0 0 := ⟨_, rfl⟩
  rw [← hZ]
  have in6 : ∀ w ∈ wsX60, w ∈ wsX6_hangsRight := by decide +kernel
  have m16 : Cond.fieldLink RX6 16 "TurningTreesModel" "above" "[I" ∈ wsX6_hangsRight := by decide +kernel
  have m22 : Cond.fieldLink RX6 22 "TurningTreesModel" "right" "[I" ∈ wsX6_hangsRight := by decide +kernel
  rw [fX6_hangsRight] at hf
  have h := hf
  refine xw_aload_n C dX6_hangsRight_0 rfl 0 rfl ?_
  refine xw_get C in6 0 rfl rfl 6 (by decide) m22 rfl rfl dX6_hangsRight_1 ?_
  refine xw_bipush C (64) dX6_hangsRight_4 (by decide) ?_
  refine xw_iload_n C dX6_hangsRight_6 rfl 1 rfl ?_
  refine xw_imul C dX6_hangsRight_7 ?_
  refine xw_iload_n C dX6_hangsRight_8 rfl 3 rfl ?_
  refine xw_iadd C dX6_hangsRight_9 ?_
  refine xw_iload_n C dX6_hangsRight_10 rfl 2 rfl ?_
  obtain ⟨g11, h⟩ := px_x h
  refine px_n h (fun x_11 ex_11 h => ?_)
  refine xw_iast (w' := w6 E o ad x_11) C 5 rfl g11 (by rw [ex_11]; rfl) dX6_hangsRight_11 ?_
  refine xw_iload_n C dX6_hangsRight_12 rfl 2 rfl ?_
  refine xw_if_lt C 28 dX6_hangsRight_13 (by decide) (fun c13 => ?_) (fun c13 => ?_)
  · have h := px_t c13 h
    cases h
    rw [hZ]
    exact xw_vret C hr dX6_hangsRight_28
  · have h := px_f c13 h
    refine xw_aload_n C dX6_hangsRight_16 rfl 0 rfl ?_
    refine xw_get C in6 0 rfl rfl 4 (by decide) m16 rfl rfl dX6_hangsRight_17 ?_
    refine xw_bipush C (64) dX6_hangsRight_20 (by decide) ?_
    refine xw_iload_n C dX6_hangsRight_22 rfl 1 rfl ?_
    refine xw_imul C dX6_hangsRight_23 ?_
    refine xw_iload_n C dX6_hangsRight_24 rfl 2 rfl ?_
    refine xw_iadd C dX6_hangsRight_25 ?_
    refine xw_iload_n C dX6_hangsRight_26 rfl 3 rfl ?_
    obtain ⟨g27, h⟩ := px_x h
    refine px_n h (fun x_27 ex_27 h => ?_)
    refine xw_iast (w' := w6 E o ad x_27) C 3 rfl g27 (by rw [ex_27]; rfl) dX6_hangsRight_27 ?_
    cases h
    rw [hZ]
    exact xw_vret C hr dX6_hangsRight_28
def fX6_turn_J75 (v1 : Int32) (x : Ob) : Option (Ob) :=
  ix v1 8 (fun j81 =>
  ix v1 8 (fun j84 =>
  px_let (ob_a x 9 j84 ((x.2 9 j81) + (1))) (fun x_84 =>
  some x_84)))
def fX6_turn (p1 : Int32) (p2 : Int32) (x : Ob) : Option (Ob) :=
  ix (((64) * p1) + p2) 512 (fun j10 =>
  px_let ((x.2 4 j10) : Int32) (fun b11 =>
  Option.bind (fX6_takesPlace p1 b11 p2 x) (fun q16 =>
  (if b11 ≤ p2 then
    ix (((64) * p1) + p2) 512 (fun j63 =>
    Option.bind (fX6_hangsRight p1 (q16.2 5 j63) b11 q16) (fun q65 =>
    Option.bind (fX6_hangsLeft p1 b11 p2 q65) (fun q72 =>
    fX6_turn_J75 p1 q72)))
  else
    ix (((64) * p1) + p2) 512 (fun j36 =>
    Option.bind (fX6_hangsLeft p1 (q16.2 6 j36) b11 q16) (fun q38 =>
    Option.bind (fX6_hangsRight p1 b11 p2 q38) (fun q45 =>
    fX6_turn_J75 p1 q45)))))))
abbrev rmX6_turn : Room := { frames := 1, cells := 0, slots := 0, locals := 24 }
set_option maxHeartbeats 4000000 in
set_option maxRecDepth 100000 in
theorem ok_X6_turn {l : Launch} {E : En} {o : Nat} {ad : (Nat → Nat)} {p1 : Int32} {p2 : Int32} {x : Ob} {r : Ob} (hf : fX6_turn p1 p2 x = some r) : CV l yX6_turn wsX6_turn (rmX6_turn) [.ref o, .int p1, .int p2] E (w6 E o ad x) (w6 E o ad r) := by
  refine xc_V (by decide) rfl (Nat.le_of_ble_eq_true rfl) [(0, .ref o), (1, .int p1), (2, .int p2)] rfl (fun p e s m below meth c A C hr => ?_)
  generalize ([.ref o, .int p1, .int p2] : List Value).toArray = args at C ⊢
  obtain ⟨Z, hZ⟩ : ∃ Z, Z = ZV E (w6 E o ad r) A below args s 0 0 := ⟨_, rfl⟩
  rw [← hZ]
  have in6 : ∀ w ∈ wsX60, w ∈ wsX6_turn := by decide +kernel
  have m16 : Cond.fieldLink RX6 16 "TurningTreesModel" "above" "[I" ∈ wsX6_turn := by decide +kernel
  have m19 : Cond.fieldLink RX6 19 "TurningTreesModel" "left" "[I" ∈ wsX6_turn := by decide +kernel
  have m22 : Cond.fieldLink RX6 22 "TurningTreesModel" "right" "[I" ∈ wsX6_turn := by decide +kernel
  have m32 : Cond.fieldLink RX6 32 "TurningTreesModel" "turns" "[I" ∈ wsX6_turn := by decide +kernel
  have hJ75 : ∀ (v1 : Int32), ∀ (x : Ob), fX6_turn_J75 v1 x = some r → XW E p l e rmX6_turn s m args below meth c Z A 0 0 (w6 E o ad x) 75 4 [(0, .ref o), (1, .int v1)] [] := by
    intro v1 x h
    rw [fX6_turn_J75] at h
    refine xw_aload_n C dX6_turn_75 rfl 0 rfl ?_
    refine xw_get C in6 0 rfl rfl 9 (by decide) m32 rfl rfl dX6_turn_76 ?_
    refine xw_iload_n C dX6_turn_79 rfl 1 rfl ?_
    refine xw_dup2 C dX6_turn_80 rfl rfl ?_
    obtain ⟨g81, h⟩ := px_x h
    refine xw_iald C 8 rfl g81 dX6_turn_81 ?_
    refine xw_iconst C (1) dX6_turn_82 (by decide) ?_
    refine xw_iadd C dX6_turn_83 ?_
    obtain ⟨g84, h⟩ := px_x h
    refine px_n h (fun x_84 ex_84 h => ?_)
    refine xw_iast (w' := w6 E o ad x_84) C 8 rfl g84 (by rw [ex_84]; rfl) dX6_turn_84 ?_
    cases h
    rw [hZ]
    exact xw_vret C hr dX6_turn_85
  rw [fX6_turn] at hf
  have h := hf
  refine xw_aload_n C dX6_turn_0 rfl 0 rfl ?_
  refine xw_get C in6 0 rfl rfl 4 (by decide) m16 rfl rfl dX6_turn_1 ?_
  refine xw_bipush C (64) dX6_turn_4 (by decide) ?_
  refine xw_iload_n C dX6_turn_6 rfl 1 rfl ?_
  refine xw_imul C dX6_turn_7 ?_
  refine xw_iload_n C dX6_turn_8 rfl 2 rfl ?_
  refine xw_iadd C dX6_turn_9 ?_
  obtain ⟨g10, h⟩ := px_x h
  refine xw_iald C 3 rfl g10 dX6_turn_10 ?_
  refine xw_topi (fun b11 eb11 => ?_)
  have h := px_v h b11 eb11
  refine xw_istore_n C dX6_turn_11 rfl (by decide) (lv' := [(3, .int b11), (0, .ref o), (1, .int p1), (2, .int p2)]) rfl ?_
  refine xw_aload_n C dX6_turn_12 rfl 1 rfl ?_
  refine xw_iload_n C dX6_turn_13 rfl 2 rfl ?_
  refine xw_iload_n C dX6_turn_14 rfl 0 rfl ?_
  refine xw_iload_n C dX6_turn_15 rfl 3 rfl ?_
  obtain ⟨q16, eq16, h⟩ := px_b h
  refine xw_callVV (w' := w6 E o ad q16) (u := []) (v := []) C (ok_X6_takesPlace (o := o) (ad := ad) (x := x) eq16) 3 gX6_turn_X6_takesPlace rfl ⟨rfl, rfl⟩ (by decide +kernel) ⟨Nat.le_of_ble_eq_true rfl, Nat.le_of_ble_eq_true rfl⟩ 0 6 rfl rfl rfl (Nat.le_of_ble_eq_true rfl) ⟨Nat.zero_le _, Nat.zero_le _⟩ rfl xe0 xe0.symm dX6_turn_16 ?_
  refine xw_iload_n C dX6_turn_19 rfl 3 rfl ?_
  refine xw_iload_n C dX6_turn_20 rfl 0 rfl ?_
  refine xw_icmp_ge C 51 dX6_turn_21 (by decide) (fun c21 => ?_) (fun c21 => ?_)
  · have h := px_t c21 h
    refine xw_aload_n C dX6_turn_51 rfl 1 rfl ?_
    refine xw_iload_n C dX6_turn_52 rfl 2 rfl ?_
    refine xw_aload_n C dX6_turn_53 rfl 1 rfl ?_
    refine xw_get C in6 0 rfl rfl 5 (by decide) m19 rfl rfl dX6_turn_54 ?_
    refine xw_bipush C (64) dX6_turn_57 (by decide) ?_
    refine xw_iload_n C dX6_turn_59 rfl 2 rfl ?_
    refine xw_imul C dX6_turn_60 ?_
    refine xw_iload_n C dX6_turn_61 rfl 3 rfl ?_
    refine xw_iadd C dX6_turn_62 ?_
    obtain ⟨g63, h⟩ := px_x h
    refine xw_iald C 4 rfl g63 dX6_turn_63 ?_
    refine xw_iload_n C dX6_turn_64 rfl 0 rfl ?_
    obtain ⟨q65, eq65, h⟩ := px_b h
    refine xw_callVV (w' := w6 E o ad q65) (u := []) (v := []) C (ok_X6_hangsRight (o := o) (ad := ad) (x := q16) eq65) 3 gX6_turn_X6_hangsRight rfl ⟨rfl, rfl⟩ (by decide +kernel) ⟨Nat.le_of_ble_eq_true rfl, Nat.le_of_ble_eq_true rfl⟩ 0 6 rfl rfl rfl (Nat.le_of_ble_eq_true rfl) ⟨Nat.zero_le _, Nat.zero_le _⟩ rfl xe0 xe0.symm dX6_turn_65 ?_
    refine xw_aload_n C dX6_turn_68 rfl 1 rfl ?_
    refine xw_iload_n C dX6_turn_69 rfl 2 rfl ?_
    refine xw_iload_n C dX6_turn_70 rfl 0 rfl ?_
    refine xw_iload_n C dX6_turn_71 rfl 3 rfl ?_
    obtain ⟨q72, eq72, h⟩ := px_b h
    refine xw_callVV (w' := w6 E o ad q72) (u := []) (v := []) C (ok_X6_hangsLeft (o := o) (ad := ad) (x := q65) eq72) 3 gX6_turn_X6_hangsLeft rfl ⟨rfl, rfl⟩ (by decide +kernel) ⟨Nat.le_of_ble_eq_true rfl, Nat.le_of_ble_eq_true rfl⟩ 0 6 rfl rfl rfl (Nat.le_of_ble_eq_true rfl) ⟨Nat.zero_le _, Nat.zero_le _⟩ rfl xe0 xe0.symm dX6_turn_72 ?_
    refine xw_perm [1, 2] rfl ?_
    exact hJ75 _ _ h
  · have h := px_f c21 h
    refine xw_aload_n C dX6_turn_24 rfl 1 rfl ?_
    refine xw_iload_n C dX6_turn_25 rfl 2 rfl ?_
    refine xw_aload_n C dX6_turn_26 rfl 1 rfl ?_
    refine xw_get C in6 0 rfl rfl 6 (by decide) m22 rfl rfl dX6_turn_27 ?_
    refine xw_bipush C (64) dX6_turn_30 (by decide) ?_
    refine xw_iload_n C dX6_turn_32 rfl 2 rfl ?_
    refine xw_imul C dX6_turn_33 ?_
    refine xw_iload_n C dX6_turn_34 rfl 3 rfl ?_
    refine xw_iadd C dX6_turn_35 ?_
    obtain ⟨g36, h⟩ := px_x h
    refine xw_iald C 5 rfl g36 dX6_turn_36 ?_
    refine xw_iload_n C dX6_turn_37 rfl 0 rfl ?_
    obtain ⟨q38, eq38, h⟩ := px_b h
    refine xw_callVV (w' := w6 E o ad q38) (u := []) (v := []) C (ok_X6_hangsLeft (o := o) (ad := ad) (x := q16) eq38) 3 gX6_turn_X6_hangsLeft rfl ⟨rfl, rfl⟩ (by decide +kernel) ⟨Nat.le_of_ble_eq_true rfl, Nat.le_of_ble_eq_true rfl⟩ 0 6 rfl rfl rfl (Nat.le_of_ble_eq_true rfl) ⟨Nat.zero_le _, Nat.zero_le _⟩ rfl xe0 xe0.symm dX6_turn_38 ?_
    refine xw_aload_n C dX6_turn_41 rfl 1 rfl ?_
    refine xw_iload_n C dX6_turn_42 rfl 2 rfl ?_
    refine xw_iload_n C dX6_turn_43 rfl 0 rfl ?_
    refine xw_iload_n C dX6_turn_44 rfl 3 rfl ?_
    obtain ⟨q45, eq45, h⟩ := px_b h
    refine xw_callVV (w' := w6 E o ad q45) (u := []) (v := []) C (ok_X6_hangsRight (o := o) (ad := ad) (x := q38) eq45) 3 gX6_turn_X6_hangsRight rfl ⟨rfl, rfl⟩ (by decide +kernel) ⟨Nat.le_of_ble_eq_true rfl, Nat.le_of_ble_eq_true rfl⟩ 0 6 rfl rfl rfl (Nat.le_of_ble_eq_true rfl) ⟨Nat.zero_le _, Nat.zero_le _⟩ rfl xe0 xe0.symm dX6_turn_45 ?_
    refine xw_goto C 75 dX6_turn_48 (by decide) ?_
    refine xw_perm [1, 2] rfl ?_
    exact hJ75 _ _ h
def fX6_splays_J78 (k0 : Int32 → Int32 → Ob → Option (Ob)) (v1 : Int32) (v2 : Int32) (x : Ob) : Option (Ob) :=
  Option.bind (fX6_turn v1 v2 x) (fun q81 =>
  k0 v1 v2 q81)
def fX6_splays_J75 (k0 : Int32 → Int32 → Ob → Option (Ob)) (v1 : Int32) (v2 : Int32) (s0 : Int32) (s1 : Int32) (x : Ob) : Option (Ob) :=
  Option.bind (fX6_turn s0 s1 x) (fun q75 =>
  fX6_splays_J78 (k0) v1 v2 q75)
def fX6_splays_J67 (k0 : Int32 → Int32 → Ob → Option (Ob)) (v1 : Int32) (v2 : Int32) (v3 : Int32) (s0 : Int32) (s1 : Int32) (s2 : Int32) (x : Ob) : Option (Ob) :=
  (if s1 = s2 then
    fX6_splays_J75 (k0) v1 v2 s0 v3 x
  else
    fX6_splays_J75 (k0) v1 v2 s0 v2 x)
def fX6_splays_J56 (k0 : Int32 → Int32 → Ob → Option (Ob)) (v1 : Int32) (v2 : Int32) (v3 : Int32) (v4 : Int32) (s0 : Int32) (s1 : Int32) (x : Ob) : Option (Ob) :=
  (if v4 ≤ v3 then
    fX6_splays_J67 (k0) v1 v2 v3 s0 s1 (0) x
  else
    fX6_splays_J67 (k0) v1 v2 v3 s0 s1 (1) x)
def fX6_splays_L0 : Nat → Int32 → Int32 → Ob → Option (Ob)
  | 0, _, _, _ => none
  | n + 1, v1, v2, x =>
  ix (((64) * v1) + v2) 512 (fun j10 =>
  (if (x.2 4 j10) < 0 then
    some x
  else
    ix (((64) * v1) + v2) 512 (fun j24 =>
    px_let ((x.2 4 j24) : Int32) (fun b25 =>
    ix (((64) * v1) + b25) 512 (fun j36 =>
    px_let ((x.2 4 j36) : Int32) (fun b37 =>
    (if b37 < 0 then
      fX6_splays_J78 (fX6_splays_L0 n) v1 v2 x
    else
      (if b25 ≤ v2 then
        fX6_splays_J56 (fX6_splays_L0 n) v1 v2 b25 b37 v1 (0) x
      else
        fX6_splays_J56 (fX6_splays_L0 n) v1 v2 b25 b37 v1 (1) x))))))))
def fX6_splays (p1 : Int32) (p2 : Int32) (x : Ob) : Option (Ob) :=
  fX6_splays_L0 FU p1 p2 x
abbrev rmX6_splays : Room := { frames := 2, cells := 0, slots := 0, locals := 47 }
set_option maxHeartbeats 4000000 in
set_option maxRecDepth 100000 in
theorem ok_X6_splays {l : Launch} {E : En} {o : Nat} {ad : (Nat → Nat)} {p1 : Int32} {p2 : Int32} {x : Ob} {r : Ob} (hf : fX6_splays p1 p2 x = some r) : CV l yX6_splays wsX6_splays (rmX6_splays) [.ref o, .int p1, .int p2] E (w6 E o ad x) (w6 E o ad r) := by
  refine xc_V (by decide) rfl (Nat.le_of_ble_eq_true rfl) [(0, .ref o), (1, .int p1), (2, .int p2)] rfl (fun p e s m below meth c A C hr => ?_)
  generalize ([.ref o, .int p1, .int p2] : List Value).toArray = args at C ⊢
  obtain ⟨Z, hZ⟩ : ∃ Z, Z = ZV E (w6 E o ad r) A below args s 0 0 := ⟨_, rfl⟩
  rw [← hZ]
  have in6 : ∀ w ∈ wsX60, w ∈ wsX6_splays := by decide +kernel
  have m16 : Cond.fieldLink RX6 16 "TurningTreesModel" "above" "[I" ∈ wsX6_splays := by decide +kernel
  have hJ78 : ∀ (k0 : Int32 → Int32 → Ob → Option (Ob)), (∀ (v1 : Int32), ∀ (v2 : Int32), ∀ (x : Ob), k0 v1 v2 x = some r → XW E p l e rmX6_splays s m args below meth c Z A 0 0 (w6 E o ad x) 0 5 [(0, .ref o), (1, .int v1), (2, .int v2)] []) → ∀ (v1 : Int32), ∀ (v2 : Int32), ∀ (x : Ob), fX6_splays_J78 k0 v1 v2 x = some r → XW E p l e rmX6_splays s m args below meth c Z A 0 0 (w6 E o ad x) 78 5 [(0, .ref o), (1, .int v1), (2, .int v2)] [] := by
    intro k0 hk0 v1 v2 x h
    rw [fX6_splays_J78] at h
    refine xw_aload_n C dX6_splays_78 rfl 0 rfl ?_
    refine xw_iload_n C dX6_splays_79 rfl 1 rfl ?_
    refine xw_iload_n C dX6_splays_80 rfl 2 rfl ?_
    obtain ⟨q81, eq81, h⟩ := px_b h
    refine xw_callVV (w' := w6 E o ad q81) (u := []) (v := []) C (ok_X6_turn (o := o) (ad := ad) (x := x) eq81) 2 gX6_splays_X6_turn rfl ⟨rfl, rfl⟩ (by decide +kernel) ⟨Nat.le_of_ble_eq_true rfl, Nat.le_of_ble_eq_true rfl⟩ 0 6 rfl rfl rfl (Nat.le_of_ble_eq_true rfl) ⟨Nat.zero_le _, Nat.zero_le _⟩ rfl xe0 xe0.symm dX6_splays_81 ?_
    refine xw_goto C 0 dX6_splays_84 (by decide) ?_
    exact hk0 _ _ _ h
  have hJ75 : ∀ (k0 : Int32 → Int32 → Ob → Option (Ob)), (∀ (v1 : Int32), ∀ (v2 : Int32), ∀ (x : Ob), k0 v1 v2 x = some r → XW E p l e rmX6_splays s m args below meth c Z A 0 0 (w6 E o ad x) 0 5 [(0, .ref o), (1, .int v1), (2, .int v2)] []) → ∀ (v1 : Int32), ∀ (v2 : Int32), ∀ (s0 : Int32), ∀ (s1 : Int32), ∀ (x : Ob), fX6_splays_J75 k0 v1 v2 s0 s1 x = some r → XW E p l e rmX6_splays s m args below meth c Z A 0 0 (w6 E o ad x) 75 5 [(0, .ref o), (1, .int v1), (2, .int v2)] [.int s1, .int s0, .ref o] := by
    intro k0 hk0 v1 v2 s0 s1 x h
    rw [fX6_splays_J75] at h
    obtain ⟨q75, eq75, h⟩ := px_b h
    refine xw_callVV (w' := w6 E o ad q75) (u := []) (v := []) C (ok_X6_turn (o := o) (ad := ad) (x := x) eq75) 2 gX6_splays_X6_turn rfl ⟨rfl, rfl⟩ (by decide +kernel) ⟨Nat.le_of_ble_eq_true rfl, Nat.le_of_ble_eq_true rfl⟩ 0 6 rfl rfl rfl (Nat.le_of_ble_eq_true rfl) ⟨Nat.zero_le _, Nat.zero_le _⟩ rfl xe0 xe0.symm dX6_splays_75 ?_
    exact hJ78 _ hk0 _ _ _ h
  have hJ67 : ∀ (k0 : Int32 → Int32 → Ob → Option (Ob)), (∀ (v1 : Int32), ∀ (v2 : Int32), ∀ (x : Ob), k0 v1 v2 x = some r → XW E p l e rmX6_splays s m args below meth c Z A 0 0 (w6 E o ad x) 0 5 [(0, .ref o), (1, .int v1), (2, .int v2)] []) → ∀ (v1 : Int32), ∀ (v2 : Int32), ∀ (v3 : Int32), ∀ (s0 : Int32), ∀ (s1 : Int32), ∀ (s2 : Int32), ∀ (x : Ob), fX6_splays_J67 k0 v1 v2 v3 s0 s1 s2 x = some r → XW E p l e rmX6_splays s m args below meth c Z A 0 0 (w6 E o ad x) 67 5 [(0, .ref o), (1, .int v1), (2, .int v2), (3, .int v3)] [.int s2, .int s1, .int s0, .ref o] := by
    intro k0 hk0 v1 v2 v3 s0 s1 s2 x h
    rw [fX6_splays_J67] at h
    refine xw_icmp_ne C 74 dX6_splays_67 (by decide) (fun c67 => ?_) (fun c67 => ?_)
    · have h := px_f c67 h
      refine xw_iload_n C dX6_splays_74 rfl 2 rfl ?_
      refine xw_perm [0, 1, 2] rfl ?_
      exact hJ75 _ hk0 _ _ _ _ _ h
    · have h := px_t c67 h
      refine xw_iload_n C dX6_splays_70 rfl 3 rfl ?_
      refine xw_goto C 75 dX6_splays_71 (by decide) ?_
      refine xw_perm [0, 1, 2] rfl ?_
      exact hJ75 _ hk0 _ _ _ _ _ h
  have hJ56 : ∀ (k0 : Int32 → Int32 → Ob → Option (Ob)), (∀ (v1 : Int32), ∀ (v2 : Int32), ∀ (x : Ob), k0 v1 v2 x = some r → XW E p l e rmX6_splays s m args below meth c Z A 0 0 (w6 E o ad x) 0 5 [(0, .ref o), (1, .int v1), (2, .int v2)] []) → ∀ (v1 : Int32), ∀ (v2 : Int32), ∀ (v3 : Int32), ∀ (v4 : Int32), ∀ (s0 : Int32), ∀ (s1 : Int32), ∀ (x : Ob), fX6_splays_J56 k0 v1 v2 v3 v4 s0 s1 x = some r → XW E p l e rmX6_splays s m args below meth c Z A 0 0 (w6 E o ad x) 56 5 [(0, .ref o), (1, .int v1), (2, .int v2), (3, .int v3), (4, .int v4)] [.int s1, .int s0, .ref o] := by
    intro k0 hk0 v1 v2 v3 v4 s0 s1 x h
    rw [fX6_splays_J56] at h
    refine xw_iload_n C dX6_splays_56 rfl 3 rfl ?_
    refine xw_iload C dX6_splays_57 4 rfl ?_
    refine xw_icmp_ge C 66 dX6_splays_59 (by decide) (fun c59 => ?_) (fun c59 => ?_)
    · have h := px_t c59 h
      refine xw_iconst C (0) dX6_splays_66 (by decide) ?_
      refine xw_perm [0, 1, 2, 3] rfl ?_
      exact hJ67 _ hk0 _ _ _ _ _ _ _ h
    · have h := px_f c59 h
      refine xw_iconst C (1) dX6_splays_62 (by decide) ?_
      refine xw_goto C 67 dX6_splays_63 (by decide) ?_
      refine xw_perm [0, 1, 2, 3] rfl ?_
      exact hJ67 _ hk0 _ _ _ _ _ _ _ h
  have hL0 : ∀ n : Nat, ∀ (v1 : Int32), ∀ (v2 : Int32), ∀ (x : Ob), fX6_splays_L0 n v1 v2 x = some r → XW E p l e rmX6_splays s m args below meth c Z A 0 0 (w6 E o ad x) 0 5 [(0, .ref o), (1, .int v1), (2, .int v2)] [] := by
    intro n
    induction n with
    | zero =>
      intro v1 v2 x h
      rw [fX6_splays_L0] at h
      cases h
    | succ n ih =>
      intro v1 v2 x h
      rw [fX6_splays_L0] at h
      refine xw_aload_n C dX6_splays_0 rfl 0 rfl ?_
      refine xw_get C in6 0 rfl rfl 4 (by decide) m16 rfl rfl dX6_splays_1 ?_
      refine xw_bipush C (64) dX6_splays_4 (by decide) ?_
      refine xw_iload_n C dX6_splays_6 rfl 1 rfl ?_
      refine xw_imul C dX6_splays_7 ?_
      refine xw_iload_n C dX6_splays_8 rfl 2 rfl ?_
      refine xw_iadd C dX6_splays_9 ?_
      obtain ⟨g10, h⟩ := px_x h
      refine xw_iald C 3 rfl g10 dX6_splays_10 ?_
      refine xw_if_lt C 87 dX6_splays_11 (by decide) (fun c11 => ?_) (fun c11 => ?_)
      · have h := px_t c11 h
        cases h
        rw [hZ]
        exact xw_vret C hr dX6_splays_87
      · have h := px_f c11 h
        refine xw_aload_n C dX6_splays_14 rfl 0 rfl ?_
        refine xw_get C in6 0 rfl rfl 4 (by decide) m16 rfl rfl dX6_splays_15 ?_
        refine xw_bipush C (64) dX6_splays_18 (by decide) ?_
        refine xw_iload_n C dX6_splays_20 rfl 1 rfl ?_
        refine xw_imul C dX6_splays_21 ?_
        refine xw_iload_n C dX6_splays_22 rfl 2 rfl ?_
        refine xw_iadd C dX6_splays_23 ?_
        obtain ⟨g24, h⟩ := px_x h
        refine xw_iald C 3 rfl g24 dX6_splays_24 ?_
        refine xw_topi (fun b25 eb25 => ?_)
        have h := px_v h b25 eb25
        refine xw_istore_n C dX6_splays_25 rfl (by decide) (lv' := [(3, .int b25), (0, .ref o), (1, .int v1), (2, .int v2)]) rfl ?_
        refine xw_aload_n C dX6_splays_26 rfl 1 rfl ?_
        refine xw_get C in6 0 rfl rfl 4 (by decide) m16 rfl rfl dX6_splays_27 ?_
        refine xw_bipush C (64) dX6_splays_30 (by decide) ?_
        refine xw_iload_n C dX6_splays_32 rfl 2 rfl ?_
        refine xw_imul C dX6_splays_33 ?_
        refine xw_iload_n C dX6_splays_34 rfl 0 rfl ?_
        refine xw_iadd C dX6_splays_35 ?_
        obtain ⟨g36, h⟩ := px_x h
        refine xw_iald C 3 rfl g36 dX6_splays_36 ?_
        refine xw_topi (fun b37 eb37 => ?_)
        have h := px_v h b37 eb37
        refine xw_istore C dX6_splays_37 (by decide) (lv' := [(4, .int b37), (3, .int b25), (0, .ref o), (1, .int v1), (2, .int v2)]) rfl ?_
        refine xw_iload C dX6_splays_39 0 rfl ?_
        refine xw_if_lt C 78 dX6_splays_41 (by decide) (fun c41 => ?_) (fun c41 => ?_)
        · have h := px_t c41 h
          refine xw_perm [2, 3, 4] rfl ?_
          exact hJ78 _ ih _ _ _ h
        · have h := px_f c41 h
          refine xw_aload_n C dX6_splays_44 rfl 2 rfl ?_
          refine xw_iload_n C dX6_splays_45 rfl 3 rfl ?_
          refine xw_iload_n C dX6_splays_46 rfl 4 rfl ?_
          refine xw_iload_n C dX6_splays_47 rfl 1 rfl ?_
          refine xw_icmp_ge C 55 dX6_splays_48 (by decide) (fun c48 => ?_) (fun c48 => ?_)
          · have h := px_t c48 h
            refine xw_iconst C (0) dX6_splays_55 (by decide) ?_
            refine xw_perm [2, 3, 4, 1, 0] rfl ?_
            exact hJ56 _ ih _ _ _ _ _ _ _ h
          · have h := px_f c48 h
            refine xw_iconst C (1) dX6_splays_51 (by decide) ?_
            refine xw_goto C 56 dX6_splays_52 (by decide) ?_
            refine xw_perm [2, 3, 4, 1, 0] rfl ?_
            exact hJ56 _ ih _ _ _ _ _ _ _ h
  rw [fX6_splays] at hf
  have h := hf
  exact hL0 _ _ _ _ h
def fX6_rises_L0 : Nat → Int32 → Int32 → Ob → Option (Ob)
  | 0, _, _, _ => none
  | n + 1, v1, v2, x =>
  ix (((64) * v1) + v2) 512 (fun j10 =>
  (if (x.2 4 j10) < 0 then
    some x
  else
    Option.bind (fX6_turn v1 v2 x) (fun q17 =>
    fX6_rises_L0 n v1 v2 q17)))
def fX6_rises (p1 : Int32) (p2 : Int32) (x : Ob) : Option (Ob) :=
  fX6_rises_L0 FU p1 p2 x
abbrev rmX6_rises : Room := { frames := 2, cells := 0, slots := 0, locals := 47 }
set_option maxHeartbeats 4000000 in
set_option maxRecDepth 100000 in
theorem ok_X6_rises {l : Launch} {E : En} {o : Nat} {ad : (Nat → Nat)} {p1 : Int32} {p2 : Int32} {x : Ob} {r : Ob} (hf : fX6_rises p1 p2 x = some r) : CV l yX6_rises wsX6_rises (rmX6_rises) [.ref o, .int p1, .int p2] E (w6 E o ad x) (w6 E o ad r) := by
  refine xc_V (by decide) rfl (Nat.le_of_ble_eq_true rfl) [(0, .ref o), (1, .int p1), (2, .int p2)] rfl (fun p e s m below meth c A C hr => ?_)
  generalize ([.ref o, .int p1, .int p2] : List Value).toArray = args at C ⊢
  obtain ⟨Z, hZ⟩ : ∃ Z, Z = ZV E (w6 E o ad r) A below args s 0 0 := ⟨_, rfl⟩
  rw [← hZ]
  have in6 : ∀ w ∈ wsX60, w ∈ wsX6_rises := by decide +kernel
  have m16 : Cond.fieldLink RX6 16 "TurningTreesModel" "above" "[I" ∈ wsX6_rises := by decide +kernel
  have hL0 : ∀ n : Nat, ∀ (v1 : Int32), ∀ (v2 : Int32), ∀ (x : Ob), fX6_rises_L0 n v1 v2 x = some r → XW E p l e rmX6_rises s m args below meth c Z A 0 0 (w6 E o ad x) 0 3 [(0, .ref o), (1, .int v1), (2, .int v2)] [] := by
    intro n
    induction n with
    | zero =>
      intro v1 v2 x h
      rw [fX6_rises_L0] at h
      cases h
    | succ n ih =>
      intro v1 v2 x h
      rw [fX6_rises_L0] at h
      refine xw_aload_n C dX6_rises_0 rfl 0 rfl ?_
      refine xw_get C in6 0 rfl rfl 4 (by decide) m16 rfl rfl dX6_rises_1 ?_
      refine xw_bipush C (64) dX6_rises_4 (by decide) ?_
      refine xw_iload_n C dX6_rises_6 rfl 1 rfl ?_
      refine xw_imul C dX6_rises_7 ?_
      refine xw_iload_n C dX6_rises_8 rfl 2 rfl ?_
      refine xw_iadd C dX6_rises_9 ?_
      obtain ⟨g10, h⟩ := px_x h
      refine xw_iald C 3 rfl g10 dX6_rises_10 ?_
      refine xw_if_lt C 23 dX6_rises_11 (by decide) (fun c11 => ?_) (fun c11 => ?_)
      · have h := px_t c11 h
        cases h
        rw [hZ]
        exact xw_vret C hr dX6_rises_23
      · have h := px_f c11 h
        refine xw_aload_n C dX6_rises_14 rfl 0 rfl ?_
        refine xw_iload_n C dX6_rises_15 rfl 1 rfl ?_
        refine xw_iload_n C dX6_rises_16 rfl 2 rfl ?_
        obtain ⟨q17, eq17, h⟩ := px_b h
        refine xw_callVV (w' := w6 E o ad q17) (u := []) (v := []) C (ok_X6_turn (o := o) (ad := ad) (x := x) eq17) 2 gX6_rises_X6_turn rfl ⟨rfl, rfl⟩ (by decide +kernel) ⟨Nat.le_of_ble_eq_true rfl, Nat.le_of_ble_eq_true rfl⟩ 0 6 rfl rfl rfl (Nat.le_of_ble_eq_true rfl) ⟨Nat.zero_le _, Nat.zero_le _⟩ rfl xe0 xe0.symm dX6_rises_17 ?_
        refine xw_goto C 0 dX6_rises_20 (by decide) ?_
        exact ih _ _ _ h
  rw [fX6_rises] at hf
  have h := hf
  exact hL0 _ _ _ _ h
def fX6_acts_J52 (v1 : Int32) (v2 : Int32) (x : Ob) : Option (Ob) :=
  ix v1 8 (fun j57 =>
  (if (x.2 2 j57) = (3) then
    Option.bind (fX6_rises v1 v2 x) (fun q65 =>
    some q65)
  else
    some x))
def fX6_acts (p1 : Int32) (p2 : Int32) (x : Ob) : Option (Ob) :=
  ix p1 8 (fun j5 =>
  (if (x.2 2 j5) = (1) then
    Option.bind (fX6_splays p1 p2 x) (fun q13 =>
    some q13)
  else
    ix p1 8 (fun j24 =>
    (if (x.2 2 j24) = (2) then
      ix (((64) * p1) + p2) 512 (fun j39 =>
      (if (x.2 4 j39) < 0 then
        fX6_acts_J52 p1 p2 x
      else
        Option.bind (fX6_turn p1 p2 x) (fun q46 =>
        some q46)))
    else
      fX6_acts_J52 p1 p2 x))))
abbrev rmX6_acts : Room := { frames := 3, cells := 0, slots := 0, locals := 71 }
set_option maxHeartbeats 4000000 in
set_option maxRecDepth 100000 in
theorem ok_X6_acts {l : Launch} {E : En} {o : Nat} {ad : (Nat → Nat)} {p1 : Int32} {p2 : Int32} {x : Ob} {r : Ob} (hf : fX6_acts p1 p2 x = some r) : CV l yX6_acts wsX6_acts (rmX6_acts) [.ref o, .int p1, .int p2] E (w6 E o ad x) (w6 E o ad r) := by
  refine xc_V (by decide) rfl (Nat.le_of_ble_eq_true rfl) [(0, .ref o), (1, .int p1), (2, .int p2)] rfl (fun p e s m below meth c A C hr => ?_)
  generalize ([.ref o, .int p1, .int p2] : List Value).toArray = args at C ⊢
  obtain ⟨Z, hZ⟩ : ∃ Z, Z = ZV E (w6 E o ad r) A below args s 0 0 := ⟨_, rfl⟩
  rw [← hZ]
  have in6 : ∀ w ∈ wsX60, w ∈ wsX6_acts := by decide +kernel
  have m7 : Cond.fieldLink RX6 7 "TurningTreesModel" "kind" "[I" ∈ wsX6_acts := by decide +kernel
  have m16 : Cond.fieldLink RX6 16 "TurningTreesModel" "above" "[I" ∈ wsX6_acts := by decide +kernel
  have hJ52 : ∀ (v1 : Int32), ∀ (v2 : Int32), ∀ (x : Ob), fX6_acts_J52 v1 v2 x = some r → XW E p l e rmX6_acts s m args below meth c Z A 0 0 (w6 E o ad x) 52 3 [(0, .ref o), (1, .int v1), (2, .int v2)] [] := by
    intro v1 v2 x h
    rw [fX6_acts_J52] at h
    refine xw_aload_n C dX6_acts_52 rfl 0 rfl ?_
    refine xw_get C in6 0 rfl rfl 2 (by decide) m7 rfl rfl dX6_acts_53 ?_
    refine xw_iload_n C dX6_acts_56 rfl 1 rfl ?_
    obtain ⟨g57, h⟩ := px_x h
    refine xw_iald C 1 rfl g57 dX6_acts_57 ?_
    refine xw_iconst C (3) dX6_acts_58 (by decide) ?_
    refine xw_icmp_ne C 68 dX6_acts_59 (by decide) (fun c59 => ?_) (fun c59 => ?_)
    · have h := px_f c59 h
      cases h
      rw [hZ]
      exact xw_vret C hr dX6_acts_68
    · have h := px_t c59 h
      refine xw_aload_n C dX6_acts_62 rfl 0 rfl ?_
      refine xw_iload_n C dX6_acts_63 rfl 1 rfl ?_
      refine xw_iload_n C dX6_acts_64 rfl 2 rfl ?_
      obtain ⟨q65, eq65, h⟩ := px_b h
      refine xw_callVV (w' := w6 E o ad q65) (u := []) (v := []) C (ok_X6_rises (o := o) (ad := ad) (x := x) eq65) 2 gX6_acts_X6_rises rfl ⟨rfl, rfl⟩ (by decide +kernel) ⟨Nat.le_of_ble_eq_true rfl, Nat.le_of_ble_eq_true rfl⟩ 0 6 rfl rfl rfl (Nat.le_of_ble_eq_true rfl) ⟨Nat.zero_le _, Nat.zero_le _⟩ rfl xe0 xe0.symm dX6_acts_65 ?_
      cases h
      rw [hZ]
      exact xw_vret C hr dX6_acts_68
  rw [fX6_acts] at hf
  have h := hf
  refine xw_aload_n C dX6_acts_0 rfl 0 rfl ?_
  refine xw_get C in6 0 rfl rfl 2 (by decide) m7 rfl rfl dX6_acts_1 ?_
  refine xw_iload_n C dX6_acts_4 rfl 1 rfl ?_
  obtain ⟨g5, h⟩ := px_x h
  refine xw_iald C 1 rfl g5 dX6_acts_5 ?_
  refine xw_iconst C (1) dX6_acts_6 (by decide) ?_
  refine xw_icmp_ne C 19 dX6_acts_7 (by decide) (fun c7 => ?_) (fun c7 => ?_)
  · have h := px_f c7 h
    refine xw_aload_n C dX6_acts_19 rfl 0 rfl ?_
    refine xw_get C in6 0 rfl rfl 2 (by decide) m7 rfl rfl dX6_acts_20 ?_
    refine xw_iload_n C dX6_acts_23 rfl 1 rfl ?_
    obtain ⟨g24, h⟩ := px_x h
    refine xw_iald C 1 rfl g24 dX6_acts_24 ?_
    refine xw_iconst C (2) dX6_acts_25 (by decide) ?_
    refine xw_icmp_ne C 52 dX6_acts_26 (by decide) (fun c26 => ?_) (fun c26 => ?_)
    · have h := px_f c26 h
      exact hJ52 _ _ _ h
    · have h := px_t c26 h
      refine xw_aload_n C dX6_acts_29 rfl 0 rfl ?_
      refine xw_get C in6 0 rfl rfl 4 (by decide) m16 rfl rfl dX6_acts_30 ?_
      refine xw_bipush C (64) dX6_acts_33 (by decide) ?_
      refine xw_iload_n C dX6_acts_35 rfl 1 rfl ?_
      refine xw_imul C dX6_acts_36 ?_
      refine xw_iload_n C dX6_acts_37 rfl 2 rfl ?_
      refine xw_iadd C dX6_acts_38 ?_
      obtain ⟨g39, h⟩ := px_x h
      refine xw_iald C 3 rfl g39 dX6_acts_39 ?_
      refine xw_if_lt C 52 dX6_acts_40 (by decide) (fun c40 => ?_) (fun c40 => ?_)
      · have h := px_t c40 h
        exact hJ52 _ _ _ h
      · have h := px_f c40 h
        refine xw_aload_n C dX6_acts_43 rfl 0 rfl ?_
        refine xw_iload_n C dX6_acts_44 rfl 1 rfl ?_
        refine xw_iload_n C dX6_acts_45 rfl 2 rfl ?_
        obtain ⟨q46, eq46, h⟩ := px_b h
        refine xw_callVV (w' := w6 E o ad q46) (u := []) (v := []) C (ok_X6_turn (o := o) (ad := ad) (x := x) eq46) 2 gX6_acts_X6_turn rfl ⟨rfl, rfl⟩ (by decide +kernel) ⟨Nat.le_of_ble_eq_true rfl, Nat.le_of_ble_eq_true rfl⟩ 0 6 rfl rfl rfl (Nat.le_of_ble_eq_true rfl) ⟨Nat.zero_le _, Nat.zero_le _⟩ rfl xe0 xe0.symm dX6_acts_46 ?_
        refine xw_goto C 68 dX6_acts_49 (by decide) ?_
        cases h
        rw [hZ]
        exact xw_vret C hr dX6_acts_68
  · have h := px_t c7 h
    refine xw_aload_n C dX6_acts_10 rfl 0 rfl ?_
    refine xw_iload_n C dX6_acts_11 rfl 1 rfl ?_
    refine xw_iload_n C dX6_acts_12 rfl 2 rfl ?_
    obtain ⟨q13, eq13, h⟩ := px_b h
    refine xw_callVV (w' := w6 E o ad q13) (u := []) (v := []) C (ok_X6_splays (o := o) (ad := ad) (x := x) eq13) 2 gX6_acts_X6_splays rfl ⟨rfl, rfl⟩ (by decide +kernel) ⟨Nat.le_of_ble_eq_true rfl, Nat.le_of_ble_eq_true rfl⟩ 0 6 rfl rfl rfl (Nat.le_of_ble_eq_true rfl) ⟨Nat.zero_le _, Nat.zero_le _⟩ rfl xe0 xe0.symm dX6_acts_13 ?_
    refine xw_goto C 68 dX6_acts_16 (by decide) ?_
    cases h
    rw [hZ]
    exact xw_vret C hr dX6_acts_68
def fX6_isDeep_J65 (k25 : Int32 → Int32 → Int64 → Int64 → Int32 → Int32 → Option (Int32)) (v0 : Int32) (v1 : Int32) (v2 : Int64) (v4 : Int64) (v7 : Int32) (s0 : Int32) : Option (Int32) :=
  px_let (v7 + (1) : Int32) (fun b67 =>
  k25 v0 v1 v2 v4 s0 b67)
def fX6_isDeep_L25 : Nat → Int32 → Int32 → Int64 → Int64 → Int32 → Int32 → Option (Int32)
  | 0, _, _, _, _, _, _ => none
  | n + 1, v0, v1, v2, v4, v6, v7 =>
  (if v0 ≤ v7 then
    (if v6 = 0 ∨ v6 = 1 then some v6 else none)
  else
    (if v6 = 0 then
      px_let ((v2 * (3)) : Int64) (fun b41 =>
      px_let ((v4 * (2)) : Int64) (fun b48 =>
      (if (lg_cmp b41 ((Int32.toInt64 v1) * b48)) ≤ 0 then
        fX6_isDeep_J65 (fX6_isDeep_L25 n) v0 v1 b41 b48 v7 (0)
      else
        fX6_isDeep_J65 (fX6_isDeep_L25 n) v0 v1 b41 b48 v7 (1))))
    else
      (if v6 = 0 ∨ v6 = 1 then some v6 else none)))
def fX6_isDeep_J20 (v0 : Int32) (v1 : Int32) (v2 : Int64) (v4 : Int64) (s0 : Int32) : Option (Int32) :=
  fX6_isDeep_L25 FU v0 v1 v2 v4 s0 (1)
def fX6_isDeep (p0 : Int32) (p1 : Int32) : Option (Int32) :=
  (if (lg_cmp (1) ((Int32.toInt64 p1) * (1))) ≤ 0 then
    fX6_isDeep_J20 p0 p1 (1) (1) (0)
  else
    fX6_isDeep_J20 p0 p1 (1) (1) (1))
abbrev rmX6_isDeep : Room := { frames := 0, cells := 0, slots := 0, locals := 0 }
set_option maxHeartbeats 4000000 in
set_option maxRecDepth 100000 in
theorem ok_X6_isDeep {l : Launch} {E : En} {p0 : Int32} {p1 : Int32} {r : Int32} (hf : fX6_isDeep p0 p1 = some r) : CI l yX6_isDeep wsX6_isDeep (rmX6_isDeep) [.int p0, .int p1] E ([]) ([]) (r) := by
  refine xc_I (by decide) rfl (Nat.le_of_ble_eq_true rfl) [(0, .int p0), (1, .int p1)] rfl (fun p e s m below meth c A C hr => ?_)
  generalize ([.int p0, .int p1] : List Value).toArray = args at C ⊢
  obtain ⟨Z, hZ⟩ : ∃ Z, Z = ZI E ([]) (r) A below args s 0 0 := ⟨_, rfl⟩
  rw [← hZ]
  have hJ65 : ∀ (k25 : Int32 → Int32 → Int64 → Int64 → Int32 → Int32 → Option (Int32)), (∀ (v0 : Int32), ∀ (v1 : Int32), ∀ (v2 : Int64), ∀ (v4 : Int64), ∀ (v6 : Int32), ∀ (v7 : Int32), k25 v0 v1 v2 v4 v6 v7 = some r → XW E p l e rmX6_isDeep s m args below meth c Z A 0 0 ([]) 25 8 [(0, .int v0), (1, .int v1), (2, .long v2), (4, .long v4), (6, .int v6), (7, .int v7)] []) → ∀ (v0 : Int32), ∀ (v1 : Int32), ∀ (v2 : Int64), ∀ (v4 : Int64), ∀ (v7 : Int32), ∀ (s0 : Int32), fX6_isDeep_J65 k25 v0 v1 v2 v4 v7 s0 = some r → XW E p l e rmX6_isDeep s m args below meth c Z A 0 0 ([]) 65 8 [(0, .int v0), (1, .int v1), (2, .long v2), (4, .long v4), (7, .int v7)] [.int s0] := by
    intro k25 hk25 v0 v1 v2 v4 v7 s0 h
    rw [fX6_isDeep_J65] at h
    refine xw_istore C dX6_isDeep_65 (by decide) (lv' := [(6, .int s0), (0, .int v0), (1, .int v1), (2, .long v2), (4, .long v4), (7, .int v7)]) rfl ?_
    refine px_n h (fun b67 eb67 h => ?_)
    refine xw_iinc (v := b67) C dX6_isDeep_67 5 rfl eb67 (by decide) (lv' := [(7, .int b67), (6, .int s0), (0, .int v0), (1, .int v1), (2, .long v2), (4, .long v4)]) rfl ?_
    refine xw_goto C 25 dX6_isDeep_70 (by decide) ?_
    refine xw_perm [2, 3, 4, 5, 1, 0] rfl ?_
    exact hk25 _ _ _ _ _ _ h
  have hL25 : ∀ n : Nat, ∀ (v0 : Int32), ∀ (v1 : Int32), ∀ (v2 : Int64), ∀ (v4 : Int64), ∀ (v6 : Int32), ∀ (v7 : Int32), fX6_isDeep_L25 n v0 v1 v2 v4 v6 v7 = some r → XW E p l e rmX6_isDeep s m args below meth c Z A 0 0 ([]) 25 8 [(0, .int v0), (1, .int v1), (2, .long v2), (4, .long v4), (6, .int v6), (7, .int v7)] [] := by
    intro n
    induction n with
    | zero =>
      intro v0 v1 v2 v4 v6 v7 h
      rw [fX6_isDeep_L25] at h
      cases h
    | succ n ih =>
      intro v0 v1 v2 v4 v6 v7 h
      rw [fX6_isDeep_L25] at h
      refine xw_iload C dX6_isDeep_25 5 rfl ?_
      refine xw_iload_n C dX6_isDeep_27 rfl 0 rfl ?_
      refine xw_icmp_ge C 73 dX6_isDeep_28 (by decide) (fun c28 => ?_) (fun c28 => ?_)
      · have h := px_t c28 h
        refine xw_iload C dX6_isDeep_73 4 rfl ?_
        obtain ⟨z75, h⟩ := px_g h
        cases h
        rw [hZ]
        exact xw_zret C hr z75 dX6_isDeep_75
      · have h := px_f c28 h
        refine xw_iload C dX6_isDeep_31 4 rfl ?_
        refine xw_if_ne C 73 dX6_isDeep_33 (by decide) (fun c33 => ?_) (fun c33 => ?_)
        · have h := px_f c33 h
          refine xw_iload C dX6_isDeep_73 4 rfl ?_
          obtain ⟨z75, h⟩ := px_g h
          cases h
          rw [hZ]
          exact xw_zret C hr z75 dX6_isDeep_75
        · have h := px_t c33 h
          refine xw_lload_n C dX6_isDeep_36 rfl 2 rfl ?_
          refine xw_ldc2 C (3) (by decide +kernel) dX6_isDeep_37 ?_
          refine xw_lmul C dX6_isDeep_40 ?_
          refine xw_topl (fun b41 eb41 => ?_)
          have h := px_v h b41 eb41
          refine xw_lstore_n C dX6_isDeep_41 rfl (by decide) (lv' := [(2, .long b41), (0, .int v0), (1, .int v1), (4, .long v4), (6, .int v6), (7, .int v7)]) rfl ?_
          refine xw_lload C dX6_isDeep_42 3 rfl ?_
          refine xw_ldc2 C (2) (by decide +kernel) dX6_isDeep_44 ?_
          refine xw_lmul C dX6_isDeep_47 ?_
          refine xw_topl (fun b48 eb48 => ?_)
          have h := px_v h b48 eb48
          refine xw_lstore C dX6_isDeep_48 (by decide) (lv' := [(4, .long b48), (2, .long b41), (0, .int v0), (1, .int v1), (6, .int v6), (7, .int v7)]) rfl ?_
          refine xw_lload_n C dX6_isDeep_50 rfl 1 rfl ?_
          refine xw_iload_n C dX6_isDeep_51 rfl 3 rfl ?_
          refine xw_i2l C dX6_isDeep_52 ?_
          refine xw_lload C dX6_isDeep_53 0 rfl ?_
          refine xw_lmul C dX6_isDeep_55 ?_
          refine xw_lcmp C dX6_isDeep_56 ?_
          refine xw_if_le C 64 dX6_isDeep_57 (by decide) (fun c57 => ?_) (fun c57 => ?_)
          · have h := px_t c57 h
            refine xw_iconst C (0) dX6_isDeep_64 (by decide) ?_
            refine xw_perm [2, 3, 1, 0, 5] rfl ?_
            exact hJ65 _ ih _ _ _ _ _ _ h
          · have h := px_f c57 h
            refine xw_iconst C (1) dX6_isDeep_60 (by decide) ?_
            refine xw_goto C 65 dX6_isDeep_61 (by decide) ?_
            refine xw_perm [2, 3, 1, 0, 5] rfl ?_
            exact hJ65 _ ih _ _ _ _ _ _ h
  have hJ20 : ∀ (v0 : Int32), ∀ (v1 : Int32), ∀ (v2 : Int64), ∀ (v4 : Int64), ∀ (s0 : Int32), fX6_isDeep_J20 v0 v1 v2 v4 s0 = some r → XW E p l e rmX6_isDeep s m args below meth c Z A 0 0 ([]) 20 8 [(0, .int v0), (1, .int v1), (2, .long v2), (4, .long v4)] [.int s0] := by
    intro v0 v1 v2 v4 s0 h
    rw [fX6_isDeep_J20] at h
    refine xw_istore C dX6_isDeep_20 (by decide) (lv' := [(6, .int s0), (0, .int v0), (1, .int v1), (2, .long v2), (4, .long v4)]) rfl ?_
    refine xw_iconst C (1) dX6_isDeep_22 (by decide) ?_
    refine xw_istore C dX6_isDeep_23 (by decide) (lv' := [(7, .int (1)), (6, .int s0), (0, .int v0), (1, .int v1), (2, .long v2), (4, .long v4)]) rfl ?_
    refine xw_perm [2, 3, 4, 5, 1, 0] rfl ?_
    exact hL25 _ _ _ _ _ _ _ h
  rw [fX6_isDeep] at hf
  have h := hf
  refine xw_lconst C (1) dX6_isDeep_0 (by decide) ?_
  refine xw_lstore_n C dX6_isDeep_1 rfl (by decide) (lv' := [(2, .long (1)), (0, .int p0), (1, .int p1)]) rfl ?_
  refine xw_lconst C (1) dX6_isDeep_2 (by decide) ?_
  refine xw_lstore C dX6_isDeep_3 (by decide) (lv' := [(4, .long (1)), (2, .long (1)), (0, .int p0), (1, .int p1)]) rfl ?_
  refine xw_lload_n C dX6_isDeep_5 rfl 1 rfl ?_
  refine xw_iload_n C dX6_isDeep_6 rfl 3 rfl ?_
  refine xw_i2l C dX6_isDeep_7 ?_
  refine xw_lload C dX6_isDeep_8 0 rfl ?_
  refine xw_lmul C dX6_isDeep_10 ?_
  refine xw_lcmp C dX6_isDeep_11 ?_
  refine xw_if_le C 19 dX6_isDeep_12 (by decide) (fun c12 => ?_) (fun c12 => ?_)
  · have h := px_t c12 h
    refine xw_iconst C (0) dX6_isDeep_19 (by decide) ?_
    refine xw_perm [2, 3, 1, 0] rfl ?_
    exact hJ20 _ _ _ _ _ h
  · have h := px_f c12 h
    refine xw_iconst C (1) dX6_isDeep_15 (by decide) ?_
    refine xw_goto C 20 dX6_isDeep_16 (by decide) ?_
    refine xw_perm [2, 3, 1, 0] rfl ?_
    exact hJ20 _ _ _ _ _ h
def fX6_leans (p1 : Int32) (p2 : Int32) (x : Ob) : Option (Int32) :=
  Option.bind (fX6_sizeOf RD p1 p2 x) (fun q4 =>
  px_let (((2) * q4) : Int32) (fun b8 =>
  ix (((64) * p1) + p2) 512 (fun j22 =>
  Option.bind (fX6_sizeOf RD p1 (x.2 5 j22) x) (fun q23 =>
  (if b8 < ((3) * q23) then
    some (1)
  else
    ix (((64) * p1) + p2) 512 (fun j44 =>
    Option.bind (fX6_sizeOf RD p1 (x.2 6 j44) x) (fun q45 =>
    (if ((3) * q45) ≤ b8 then
      some (0)
    else
      some (1)))))))))
abbrev rmX6_leans : Room := { frames := 71, cells := 0, slots := 0, locals := 1562 }
set_option maxHeartbeats 4000000 in
set_option maxRecDepth 100000 in
theorem ok_X6_leans {l : Launch} {E : En} {o : Nat} {ad : (Nat → Nat)} {p1 : Int32} {p2 : Int32} {x : Ob} {r : Int32} (hf : fX6_leans p1 p2 x = some r) : CI l yX6_leans wsX6_leans (rmX6_leans) [.ref o, .int p1, .int p2] E (w6 E o ad x) (w6 E o ad x) (r) := by
  refine xc_I (by decide) rfl (Nat.le_of_ble_eq_true rfl) [(0, .ref o), (1, .int p1), (2, .int p2)] rfl (fun p e s m below meth c A C hr => ?_)
  generalize ([.ref o, .int p1, .int p2] : List Value).toArray = args at C ⊢
  obtain ⟨Z, hZ⟩ : ∃ Z, Z = ZI E (w6 E o ad x) (r) A below args s 0 0 := ⟨_, rfl⟩
  rw [← hZ]
  have in6 : ∀ w ∈ wsX60, w ∈ wsX6_leans := by decide +kernel
  have m19 : Cond.fieldLink RX6 19 "TurningTreesModel" "left" "[I" ∈ wsX6_leans := by decide +kernel
  have m22 : Cond.fieldLink RX6 22 "TurningTreesModel" "right" "[I" ∈ wsX6_leans := by decide +kernel
  rw [fX6_leans] at hf
  have h := hf
  refine xw_iconst C (2) dX6_leans_0 (by decide) ?_
  refine xw_aload_n C dX6_leans_1 rfl 0 rfl ?_
  refine xw_iload_n C dX6_leans_2 rfl 1 rfl ?_
  refine xw_iload_n C dX6_leans_3 rfl 2 rfl ?_
  obtain ⟨q4, eq4, h⟩ := px_b h
  refine xw_callVI (w' := w6 E o ad x) (u := []) (v := []) C (ok_X6_sizeOf (o := o) (ad := ad) RD eq4) 2 gX6_leans_X6_sizeOf rfl ⟨rfl, rfl⟩ (by decide +kernel) ⟨Nat.le_of_ble_eq_true rfl, Nat.le_of_ble_eq_true rfl⟩ 0 6 rfl rfl rfl (Nat.le_of_ble_eq_true rfl) ⟨Nat.zero_le _, Nat.zero_le _⟩ rfl xe0 xe0.symm dX6_leans_4 ?_
  refine xw_imul C dX6_leans_7 ?_
  refine xw_topi (fun b8 eb8 => ?_)
  have h := px_v h b8 eb8
  refine xw_istore_n C dX6_leans_8 rfl (by decide) (lv' := [(3, .int b8), (0, .ref o), (1, .int p1), (2, .int p2)]) rfl ?_
  refine xw_iconst C (3) dX6_leans_9 (by decide) ?_
  refine xw_aload_n C dX6_leans_10 rfl 1 rfl ?_
  refine xw_iload_n C dX6_leans_11 rfl 2 rfl ?_
  refine xw_aload_n C dX6_leans_12 rfl 1 rfl ?_
  refine xw_get C in6 0 rfl rfl 5 (by decide) m19 rfl rfl dX6_leans_13 ?_
  refine xw_bipush C (64) dX6_leans_16 (by decide) ?_
  refine xw_iload_n C dX6_leans_18 rfl 2 rfl ?_
  refine xw_imul C dX6_leans_19 ?_
  refine xw_iload_n C dX6_leans_20 rfl 3 rfl ?_
  refine xw_iadd C dX6_leans_21 ?_
  obtain ⟨g22, h⟩ := px_x h
  refine xw_iald C 4 rfl g22 dX6_leans_22 ?_
  obtain ⟨q23, eq23, h⟩ := px_b h
  refine xw_callVI (w' := w6 E o ad x) (u := []) (v := []) C (ok_X6_sizeOf (o := o) (ad := ad) RD eq23) 2 gX6_leans_X6_sizeOf rfl ⟨rfl, rfl⟩ (by decide +kernel) ⟨Nat.le_of_ble_eq_true rfl, Nat.le_of_ble_eq_true rfl⟩ 0 6 rfl rfl rfl (Nat.le_of_ble_eq_true rfl) ⟨Nat.zero_le _, Nat.zero_le _⟩ rfl xe0 xe0.symm dX6_leans_23 ?_
  refine xw_imul C dX6_leans_26 ?_
  refine xw_iload_n C dX6_leans_27 rfl 0 rfl ?_
  refine xw_icmp_gt C 53 dX6_leans_28 (by decide) (fun c28 => ?_) (fun c28 => ?_)
  · have h := px_t c28 h
    refine xw_iconst C (1) dX6_leans_53 (by decide) ?_
    refine xw_goto C 58 dX6_leans_54 (by decide) ?_
    cases h
    rw [hZ]
    exact xw_zret C hr (Or.inr rfl) dX6_leans_58
  · have h := px_f c28 h
    refine xw_iconst C (3) dX6_leans_31 (by decide) ?_
    refine xw_aload_n C dX6_leans_32 rfl 1 rfl ?_
    refine xw_iload_n C dX6_leans_33 rfl 2 rfl ?_
    refine xw_aload_n C dX6_leans_34 rfl 1 rfl ?_
    refine xw_get C in6 0 rfl rfl 6 (by decide) m22 rfl rfl dX6_leans_35 ?_
    refine xw_bipush C (64) dX6_leans_38 (by decide) ?_
    refine xw_iload_n C dX6_leans_40 rfl 2 rfl ?_
    refine xw_imul C dX6_leans_41 ?_
    refine xw_iload_n C dX6_leans_42 rfl 3 rfl ?_
    refine xw_iadd C dX6_leans_43 ?_
    obtain ⟨g44, h⟩ := px_x h
    refine xw_iald C 5 rfl g44 dX6_leans_44 ?_
    obtain ⟨q45, eq45, h⟩ := px_b h
    refine xw_callVI (w' := w6 E o ad x) (u := []) (v := []) C (ok_X6_sizeOf (o := o) (ad := ad) RD eq45) 2 gX6_leans_X6_sizeOf rfl ⟨rfl, rfl⟩ (by decide +kernel) ⟨Nat.le_of_ble_eq_true rfl, Nat.le_of_ble_eq_true rfl⟩ 0 6 rfl rfl rfl (Nat.le_of_ble_eq_true rfl) ⟨Nat.zero_le _, Nat.zero_le _⟩ rfl xe0 xe0.symm dX6_leans_45 ?_
    refine xw_imul C dX6_leans_48 ?_
    refine xw_iload_n C dX6_leans_49 rfl 0 rfl ?_
    refine xw_icmp_le C 57 dX6_leans_50 (by decide) (fun c50 => ?_) (fun c50 => ?_)
    · have h := px_t c50 h
      refine xw_iconst C (0) dX6_leans_57 (by decide) ?_
      cases h
      rw [hZ]
      exact xw_zret C hr (Or.inl rfl) dX6_leans_58
    · have h := px_f c50 h
      refine xw_iconst C (1) dX6_leans_53 (by decide) ?_
      refine xw_goto C 58 dX6_leans_54 (by decide) ?_
      cases h
      rw [hZ]
      exact xw_zret C hr (Or.inr rfl) dX6_leans_58
def fX6_sorts : Nat → Int32 → Int32 → Ob → Option (Ob)
  | 0, _, _, _ => none
  | d + 1, p1, p2, x =>
  (if p2 < 0 then
    some x
  else
    ix (((64) * p1) + p2) 512 (fun j16 =>
    Option.bind (fX6_sorts d p1 (x.2 5 j16) x) (fun q17 =>
    ix (q17.1 15) 64 (fun j29 =>
    px_let (ob_a q17 14 j29 p2) (fun x_29 =>
    px_let (ob_i x_29 15 ((x_29.1 15) + (1))) (fun x_37 =>
    ix (((64) * p1) + p2) 512 (fun j52 =>
    Option.bind (fX6_sorts d p1 (x_37.2 6 j52) x_37) (fun q53 =>
    some q53))))))))
abbrev rmX6_sorts (d : Nat) : Room := { frames := d + 0, cells := 0, slots := 0, locals := d * 22 + 0 }
set_option maxHeartbeats 4000000 in
set_option maxRecDepth 100000 in
theorem ok_X6_sorts {l : Launch} {E : En} {o : Nat} {ad : (Nat → Nat)} : ∀ (d : Nat) {p1 : Int32} {p2 : Int32} {x : Ob} {r : Ob}, fX6_sorts d p1 p2 x = some r → CV l yX6_sorts wsX6_sorts (rmX6_sorts d) [.ref o, .int p1, .int p2] E (w6 E o ad x) (w6 E o ad r) := by
  intro d
  induction d with
  | zero =>
    intro p1 p2 x r hf
    rw [fX6_sorts] at hf
    cases hf
  | succ d ih =>
    intro p1 p2 x r hf
    refine xc_V (by decide) rfl (Nat.le_of_ble_eq_true rfl) [(0, .ref o), (1, .int p1), (2, .int p2)] rfl (fun p e s m below meth c A C hr => ?_)
    generalize ([.ref o, .int p1, .int p2] : List Value).toArray = args at C ⊢
    obtain ⟨Z, hZ⟩ : ∃ Z, Z = ZV E (w6 E o ad r) A below args s 0 0 := ⟨_, rfl⟩
    rw [← hZ]
    have in6 : ∀ w ∈ wsX60, w ∈ wsX6_sorts := by decide +kernel
    have m19 : Cond.fieldLink RX6 19 "TurningTreesModel" "left" "[I" ∈ wsX6_sorts := by decide +kernel
    have m22 : Cond.fieldLink RX6 22 "TurningTreesModel" "right" "[I" ∈ wsX6_sorts := by decide +kernel
    have m47 : Cond.fieldLink RX6 47 "TurningTreesModel" "sorted" "[I" ∈ wsX6_sorts := by decide +kernel
    have m141 : Cond.fieldLink RX6 141 "TurningTreesModel" "sortedMany" "I" ∈ wsX6_sorts := by decide +kernel
    rw [fX6_sorts] at hf
    have h := hf
    refine xw_iload_n C dX6_sorts_0 rfl 2 rfl ?_
    refine xw_if_lt C 56 dX6_sorts_1 (by decide) (fun c1 => ?_) (fun c1 => ?_)
    · have h := px_t c1 h
      cases h
      rw [hZ]
      exact xw_vret C hr dX6_sorts_56
    · have h := px_f c1 h
      refine xw_aload_n C dX6_sorts_4 rfl 0 rfl ?_
      refine xw_iload_n C dX6_sorts_5 rfl 1 rfl ?_
      refine xw_aload_n C dX6_sorts_6 rfl 0 rfl ?_
      refine xw_get C in6 0 rfl rfl 5 (by decide) m19 rfl rfl dX6_sorts_7 ?_
      refine xw_bipush C (64) dX6_sorts_10 (by decide) ?_
      refine xw_iload_n C dX6_sorts_12 rfl 1 rfl ?_
      refine xw_imul C dX6_sorts_13 ?_
      refine xw_iload_n C dX6_sorts_14 rfl 2 rfl ?_
      refine xw_iadd C dX6_sorts_15 ?_
      obtain ⟨g16, h⟩ := px_x h
      refine xw_iald C 4 rfl g16 dX6_sorts_16 ?_
      obtain ⟨q17, eq17, h⟩ := px_b h
      refine xw_callVV (w' := w6 E o ad q17) (u := []) (v := []) C (ih eq17) 2 gX6_sorts_X6_sorts rfl ⟨rfl, rfl⟩ (by decide +kernel) ⟨by show d + 0 + 1 ≤ d + 1 + 0; omega, by show 8 + (3 + 11) + (d * 22 + 0) ≤ (d + 1) * 22 + 0; omega⟩ 0 6 rfl rfl rfl (Nat.le_of_ble_eq_true rfl) ⟨Nat.zero_le _, Nat.zero_le _⟩ rfl xe0 xe0.symm dX6_sorts_17 ?_
      refine xw_aload_n C dX6_sorts_20 rfl 0 rfl ?_
      refine xw_get C in6 0 rfl rfl 14 (by decide) m47 rfl rfl dX6_sorts_21 ?_
      refine xw_aload_n C dX6_sorts_24 rfl 0 rfl ?_
      refine xw_get C in6 0 rfl rfl 15 (by decide) m141 rfl rfl dX6_sorts_25 ?_
      refine xw_iload_n C dX6_sorts_28 rfl 2 rfl ?_
      obtain ⟨g29, h⟩ := px_x h
      refine px_n h (fun x_29 ex_29 h => ?_)
      refine xw_iast (w' := w6 E o ad x_29) C 13 rfl g29 (by rw [ex_29]; rfl) dX6_sorts_29 ?_
      refine xw_aload_n C dX6_sorts_30 rfl 0 rfl ?_
      refine xw_dup C dX6_sorts_31 rfl ?_
      refine xw_get C in6 0 rfl rfl 15 (by decide) m141 rfl rfl dX6_sorts_32 ?_
      refine xw_iconst C (1) dX6_sorts_35 (by decide) ?_
      refine xw_iadd C dX6_sorts_36 ?_
      refine px_n h (fun x_37 ex_37 h => ?_)
      refine xw_put (w' := w6 E o ad x_37) C in6 tyX6 tyX6_ok nmX6 0 rfl rfl 15 (by decide) m141 rfl rfl rfl (Nat.le_of_ble_eq_true rfl) (by rw [ex_37]; rfl) dX6_sorts_37 ?_
      refine xw_aload_n C dX6_sorts_40 rfl 0 rfl ?_
      refine xw_iload_n C dX6_sorts_41 rfl 1 rfl ?_
      refine xw_aload_n C dX6_sorts_42 rfl 0 rfl ?_
      refine xw_get C in6 0 rfl rfl 6 (by decide) m22 rfl rfl dX6_sorts_43 ?_
      refine xw_bipush C (64) dX6_sorts_46 (by decide) ?_
      refine xw_iload_n C dX6_sorts_48 rfl 1 rfl ?_
      refine xw_imul C dX6_sorts_49 ?_
      refine xw_iload_n C dX6_sorts_50 rfl 2 rfl ?_
      refine xw_iadd C dX6_sorts_51 ?_
      obtain ⟨g52, h⟩ := px_x h
      refine xw_iald C 5 rfl g52 dX6_sorts_52 ?_
      obtain ⟨q53, eq53, h⟩ := px_b h
      refine xw_callVV (w' := w6 E o ad q53) (u := []) (v := []) C (ih eq53) 2 gX6_sorts_X6_sorts rfl ⟨rfl, rfl⟩ (by decide +kernel) ⟨by show d + 0 + 1 ≤ d + 1 + 0; omega, by show 8 + (3 + 11) + (d * 22 + 0) ≤ (d + 1) * 22 + 0; omega⟩ 0 6 rfl rfl rfl (Nat.le_of_ble_eq_true rfl) ⟨Nat.zero_le _, Nat.zero_le _⟩ rfl xe0 xe0.symm dX6_sorts_53 ?_
      cases h
      rw [hZ]
      exact xw_vret C hr dX6_sorts_56
def fX6_even : Nat → Int32 → Int32 → Int32 → Ob → Option (Int32 × Ob)
  | 0, _, _, _, _ => none
  | d + 1, p1, p2, p3, x =>
  (if p2 ≤ p3 then
    ix ((p2 + p3) / (2)) 64 (fun j16 =>
    px_let ((x.2 14 j16) : Int32) (fun b17 =>
    Option.bind (fX6_even d p1 p2 (((p2 + p3) / (2)) - (1)) x) (fun q31 =>
    Option.bind (fX6_hangsLeft p1 q31.1 b17 q31.2) (fun q36 =>
    Option.bind (fX6_even d p1 (((p2 + p3) / (2)) + (1)) p3 q36) (fun q51 =>
    Option.bind (fX6_hangsRight p1 q51.1 b17 q51.2) (fun q56 =>
    some (b17, q56)))))))
  else
    some ((-1), x))
abbrev rmX6_even (d : Nat) : Room := { frames := d + 1, cells := 0, slots := 0, locals := d * 24 + 23 }
set_option maxHeartbeats 4000000 in
set_option maxRecDepth 100000 in
theorem ok_X6_even {l : Launch} {E : En} {o : Nat} {ad : (Nat → Nat)} : ∀ (d : Nat) {p1 : Int32} {p2 : Int32} {p3 : Int32} {x : Ob} {r : Int32 × Ob}, fX6_even d p1 p2 p3 x = some r → CI l yX6_even wsX6_even (rmX6_even d) [.ref o, .int p1, .int p2, .int p3] E (w6 E o ad x) (w6 E o ad r.2) (r.1) := by
  intro d
  induction d with
  | zero =>
    intro p1 p2 p3 x r hf
    rw [fX6_even] at hf
    cases hf
  | succ d ih =>
    intro p1 p2 p3 x r hf
    refine xc_I (by decide) rfl (Nat.le_of_ble_eq_true rfl) [(0, .ref o), (1, .int p1), (2, .int p2), (3, .int p3)] rfl (fun p e s m below meth c A C hr => ?_)
    generalize ([.ref o, .int p1, .int p2, .int p3] : List Value).toArray = args at C ⊢
    obtain ⟨Z, hZ⟩ : ∃ Z, Z = ZI E (w6 E o ad r.2) (r.1) A below args s 0 0 := ⟨_, rfl⟩
    rw [← hZ]
    have in6 : ∀ w ∈ wsX60, w ∈ wsX6_even := by decide +kernel
    have m47 : Cond.fieldLink RX6 47 "TurningTreesModel" "sorted" "[I" ∈ wsX6_even := by decide +kernel
    rw [fX6_even] at hf
    have h := hf
    refine xw_iload_n C dX6_even_0 rfl 2 rfl ?_
    refine xw_iload_n C dX6_even_1 rfl 3 rfl ?_
    refine xw_icmp_le C 7 dX6_even_2 (by decide) (fun c2 => ?_) (fun c2 => ?_)
    · have h := px_t c2 h
      refine xw_aload_n C dX6_even_7 rfl 0 rfl ?_
      refine xw_get C in6 0 rfl rfl 14 (by decide) m47 rfl rfl dX6_even_8 ?_
      refine xw_iload_n C dX6_even_11 rfl 2 rfl ?_
      refine xw_iload_n C dX6_even_12 rfl 3 rfl ?_
      refine xw_iadd C dX6_even_13 ?_
      refine xw_iconst C (2) dX6_even_14 (by decide) ?_
      refine xw_idiv C dX6_even_15 (by decide) ?_
      obtain ⟨g16, h⟩ := px_x h
      refine xw_iald C 13 rfl g16 dX6_even_16 ?_
      refine xw_topi (fun b17 eb17 => ?_)
      have h := px_v h b17 eb17
      refine xw_istore C dX6_even_17 (by decide) (lv' := [(4, .int b17), (0, .ref o), (1, .int p1), (2, .int p2), (3, .int p3)]) rfl ?_
      refine xw_aload_n C dX6_even_19 rfl 1 rfl ?_
      refine xw_iload_n C dX6_even_20 rfl 2 rfl ?_
      refine xw_aload_n C dX6_even_21 rfl 1 rfl ?_
      refine xw_iload_n C dX6_even_22 rfl 2 rfl ?_
      refine xw_iload_n C dX6_even_23 rfl 3 rfl ?_
      refine xw_iload_n C dX6_even_24 rfl 3 rfl ?_
      refine xw_iload_n C dX6_even_25 rfl 4 rfl ?_
      refine xw_iadd C dX6_even_26 ?_
      refine xw_iconst C (2) dX6_even_27 (by decide) ?_
      refine xw_idiv C dX6_even_28 (by decide) ?_
      refine xw_iconst C (1) dX6_even_29 (by decide) ?_
      refine xw_isub C dX6_even_30 ?_
      obtain ⟨q31, eq31, h⟩ := px_b h
      refine xw_callVI (w' := w6 E o ad q31.2) (u := []) (v := []) C (ih eq31) 3 gX6_even_X6_even rfl ⟨rfl, rfl⟩ (by decide +kernel) ⟨by show d + 1 + 1 ≤ d + 1 + 1; omega, by show 8 + (5 + 11) + (d * 24 + 23) ≤ (d + 1) * 24 + 23; omega⟩ 0 6 rfl rfl rfl (Nat.le_of_ble_eq_true rfl) ⟨Nat.zero_le _, Nat.zero_le _⟩ rfl xe0 xe0.symm dX6_even_31 ?_
      refine xw_iload C dX6_even_34 0 rfl ?_
      obtain ⟨q36, eq36, h⟩ := px_b h
      refine xw_callVV (w' := w6 E o ad q36) (u := []) (v := []) C (ok_X6_hangsLeft (o := o) (ad := ad) (x := q31.2) eq36) 3 gX6_even_X6_hangsLeft rfl ⟨rfl, rfl⟩ (by decide +kernel) ⟨Nat.le_of_ble_eq_true rfl, Nat.le_of_ble_eq_true rfl⟩ 0 6 rfl rfl rfl (Nat.le_of_ble_eq_true rfl) ⟨Nat.zero_le _, Nat.zero_le _⟩ rfl xe0 xe0.symm dX6_even_36 ?_
      refine xw_aload_n C dX6_even_39 rfl 1 rfl ?_
      refine xw_iload_n C dX6_even_40 rfl 2 rfl ?_
      refine xw_aload_n C dX6_even_41 rfl 1 rfl ?_
      refine xw_iload_n C dX6_even_42 rfl 2 rfl ?_
      refine xw_iload_n C dX6_even_43 rfl 3 rfl ?_
      refine xw_iload_n C dX6_even_44 rfl 4 rfl ?_
      refine xw_iadd C dX6_even_45 ?_
      refine xw_iconst C (2) dX6_even_46 (by decide) ?_
      refine xw_idiv C dX6_even_47 (by decide) ?_
      refine xw_iconst C (1) dX6_even_48 (by decide) ?_
      refine xw_iadd C dX6_even_49 ?_
      refine xw_iload_n C dX6_even_50 rfl 4 rfl ?_
      obtain ⟨q51, eq51, h⟩ := px_b h
      refine xw_callVI (w' := w6 E o ad q51.2) (u := []) (v := []) C (ih eq51) 3 gX6_even_X6_even rfl ⟨rfl, rfl⟩ (by decide +kernel) ⟨by show d + 1 + 1 ≤ d + 1 + 1; omega, by show 8 + (5 + 11) + (d * 24 + 23) ≤ (d + 1) * 24 + 23; omega⟩ 0 6 rfl rfl rfl (Nat.le_of_ble_eq_true rfl) ⟨Nat.zero_le _, Nat.zero_le _⟩ rfl xe0 xe0.symm dX6_even_51 ?_
      refine xw_iload C dX6_even_54 0 rfl ?_
      obtain ⟨q56, eq56, h⟩ := px_b h
      refine xw_callVV (w' := w6 E o ad q56) (u := []) (v := []) C (ok_X6_hangsRight (o := o) (ad := ad) (x := q51.2) eq56) 3 gX6_even_X6_hangsRight rfl ⟨rfl, rfl⟩ (by decide +kernel) ⟨Nat.le_of_ble_eq_true rfl, Nat.le_of_ble_eq_true rfl⟩ 0 6 rfl rfl rfl (Nat.le_of_ble_eq_true rfl) ⟨Nat.zero_le _, Nat.zero_le _⟩ rfl xe0 xe0.symm dX6_even_56 ?_
      refine xw_iload C dX6_even_59 0 rfl ?_
      cases h
      rw [hZ]
      exact xw_iret C hr dX6_even_61
    · have h := px_f c2 h
      refine xw_iconst C (-1) dX6_even_5 (by decide) ?_
      cases h
      rw [hZ]
      exact xw_iret C hr dX6_even_6
