abbrev TA : Type := Nat × Nat × Nat × (Nat → Nat) × (Nat → Nat)
theorem tref_new {g : Nat → Option Nat} {v : Int32} {b : Nat} (h1 : ¬ v < 0) (h2 : v < nI 8) : tref (va_up g v.toNatClampNeg (some b)) (v + 1 - 1) = some b := by
  rcases pk_ix v (n := 8) (by decide) with h | h | ⟨j, hj, rfl⟩
  · exact absurd h h1
  · exact absurd h2 (by rw [Int32.not_lt]; exact h)
  · have e : nI j + 1 - 1 = nI j := by rw [nI_1, nI_pred]
    rw [e, tref, if_neg (nI_pos (by omega)), if_neg (nI_ge hj (by decide)), va_up_self]
theorem in8 {v : Int32} (h1 : ¬ v < 0) (h2 : v < nI 8) : vp_in v 8 := by
  rcases pk_ix v (n := 8) (by decide) with h | h | ⟨j, hj, rfl⟩
  · exact absurd h h1
  · exact absurd h2 (by rw [Int32.not_lt]; exact h)
  · exact vp_in_nI hj (by decide)
/-- a new tree of a kind, as tree and split make it -/
abbrev wN (E : En) (a : TA) (k : Int32) (f1 : Nat → Int32) : va_W := w4 E a.1 a.2.1 a.2.2.1 a.2.2.2.1 a.2.2.2.2 (ob_i ob0 0 k) (shp0 f1) ob0
abbrev rmX5_newTree_M : Room := { frames := 3, cells := 9, slots := 434, locals := 64 }
abbrev rmX5_newTree_F : Room := { frames := 0, cells := 0, slots := 0, locals := 0 }
set_option maxHeartbeats 4000000 in
set_option maxRecDepth 100000 in
theorem ok_X5_newTree_F {l : Launch} {E : En} {o q u : Nat} {ad : Nat → Nat} {gg : Nat → Option Nat} {x : Ob} {p1 : Int32} (h1 : x.1 1 < 0 ∨ nI 8 ≤ x.1 1) : CI l yX5_newTree wsX5_newTree rmX5_newTree_F [.ref o, .int p1] E (w5 E o ad q u x gg) (w5 E o ad q u x gg) (-1) := by
  refine xc_I (by decide) rfl (Nat.le_of_ble_eq_true rfl) [(0, .ref o), (1, .int p1)] rfl (fun p e s m below meth c A C hr => ?_)
  have in5 : ∀ w ∈ wsX50, w ∈ wsX5_newTree := by decide +kernel
  have m15 : Cond.fieldLink RX5 15 "TurningTrees" "treesMade" "I" ∈ wsX5_newTree := by decide +kernel
  have m11 : Cond.fieldLink RX5 11 "TurningTrees" "trees" "[LTurningTrees$Tree;" ∈ wsX5_newTree := by decide +kernel
  refine xw_aload_n C dX5_newTree_0 rfl 0 rfl ?_
  refine xw_get C in5 0 rfl rfl 1 (by decide) m15 rfl rfl dX5_newTree_1 ?_
  refine xw_if_lt C 19 dX5_newTree_4 (by decide) (fun c1 => ?_) (fun c1 => ?_)
  · refine xw_iconst C (-1) dX5_newTree_19 (by decide) ?_
    exact xw_iret C hr dX5_newTree_20
  · refine xw_aload_n C dX5_newTree_7 rfl 0 rfl ?_
    refine xw_get C in5 0 rfl rfl 1 (by decide) m15 rfl rfl dX5_newTree_8 ?_
    refine xw_aload_n C dX5_newTree_11 rfl 0 rfl ?_
    refine xw_get C in5 0 rfl rfl 0 (by decide) m11 rfl rfl dX5_newTree_12 ?_
    refine xw_alenq C 1 rfl dX5_newTree_15 ?_
    refine xw_icmp_lt C 21 dX5_newTree_16 (by decide) (fun c2 => ?_) (fun c2 => ?_)
    · rcases h1 with h | h
      · exact absurd h c1
      · exact absurd c2 (by rw [Int32.not_lt]; exact h)
    · refine xw_iconst C (-1) dX5_newTree_19 (by decide) ?_
      exact xw_iret C hr dX5_newTree_20
set_option maxHeartbeats 4000000 in
set_option maxRecDepth 100000 in
theorem ok_X5_newTree_M {l : Launch} {E : En} {o q u : Nat} {ad : Nat → Nat} {gg : Nat → Option Nat} {x : Ob} {p1 : Int32} {f1 : Nat → Int32} (hf : fJ7_fill_53178 64 (-1) (fun _ => 0) = some f1) (h1 : ¬ x.1 1 < 0) (h2 : x.1 1 < nI 8) : CMI l yX5_newTree wsX5_newTree rmX5_newTree_M [.ref o, .int p1] E (w5 E o ad q u x gg) (fun a : TA => w5 E o ad q u (ob_i x 1 (x.1 1 + 1)) (va_up gg (x.1 1).toNatClampNeg (some a.1)) ++ wN E a p1 f1) (x.1 1 + 1 - 1) := by
  refine xc_MI (by decide) rfl (Nat.le_of_ble_eq_true rfl) [(0, .ref o), (1, .int p1)] rfl (fun p e s m below meth c A C hr => ?_)
  have in5 : ∀ w ∈ wsX50, w ∈ wsX5_newTree := by decide +kernel
  have in4 : ∀ w ∈ wsX40, w ∈ wsX5_newTree := by decide +kernel
  have m15 : Cond.fieldLink RX5 15 "TurningTrees" "treesMade" "I" ∈ wsX5_newTree := by decide +kernel
  have m11 : Cond.fieldLink RX5 11 "TurningTrees" "trees" "[LTurningTrees$Tree;" ∈ wsX5_newTree := by decide +kernel
  refine xw_aload_n C dX5_newTree_0 rfl 0 rfl ?_
  refine xw_get C in5 0 rfl rfl 1 (by decide) m15 rfl rfl dX5_newTree_1 ?_
  refine xw_if_lt C 19 dX5_newTree_4 (by decide) (fun c1 => absurd c1 h1) (fun c1 => ?_)
  refine xw_aload_n C dX5_newTree_7 rfl 0 rfl ?_
  refine xw_get C in5 0 rfl rfl 1 (by decide) m15 rfl rfl dX5_newTree_8 ?_
  refine xw_aload_n C dX5_newTree_11 rfl 0 rfl ?_
  refine xw_get C in5 0 rfl rfl 0 (by decide) m11 rfl rfl dX5_newTree_12 ?_
  refine xw_alenq C 1 rfl dX5_newTree_15 ?_
  refine xw_icmp_lt C 21 dX5_newTree_16 (by decide) (fun c2 => ?_) (fun c2 => absurd h2 c2)
  refine xw_aload_n C dX5_newTree_21 rfl 0 rfl ?_
  refine xw_get C in5 0 rfl rfl 0 (by decide) m11 rfl rfl dX5_newTree_22 ?_
  refine xw_aload_n C dX5_newTree_25 rfl 0 rfl ?_
  refine xw_get C in5 0 rfl rfl 1 (by decide) m15 rfl rfl dX5_newTree_26 ?_
  refine xw_new (ci := 4) (fs := [.int 0, .null, .null, .int 0, .int 0]) C in4 tyX4 tyX4_ok (by decide +kernel) (by decide +kernel) (by decide +kernel) rfl (fun j hj => by rcases (show j = 0 ∨ j = 1 ∨ j = 2 ∨ j = 3 ∨ j = 4 by omega) with rfl | rfl | rfl | rfl | rfl <;> rfl) ⟨Nat.le_of_ble_eq_true rfl, Nat.le_of_ble_eq_true rfl⟩ dX5_newTree_29 (fun b => ?_)
  refine xw_dup C dX5_newTree_32 rfl ?_
  refine xw_iload_n C dX5_newTree_33 rfl 1 rfl ?_
  refine xw_callM (u := w5 E o ad q u x gg) (v := []) C (ok_X4_init (p1 := p1) hf) 1 gX5_newTree_X4_init rfl (by decide +kernel) (by decide +kernel) (by decide +kernel) rfl (by decide +kernel) ⟨Nat.le_of_ble_eq_true rfl, Nat.le_of_ble_eq_true rfl⟩ rfl (Nat.le_of_ble_eq_true rfl) ⟨Nat.le_of_ble_eq_true rfl, Nat.le_of_ble_eq_true rfl⟩ rfl rfl dX5_newTree_34 (fun a => ?_)
  refine xw_astq (w' := w5 E o ad q u x (va_up gg (x.1 1).toNatClampNeg (some b)) ++ w4 E b a.1 a.2.1 a.2.2.1 a.2.2.2 (ob_i ob0 0 p1) (shp0 f1) ob0) C 1 4 rfl rfl rfl (in8 h1 h2) rfl dX5_newTree_37 ?_
  refine xw_aload_n C dX5_newTree_38 rfl 0 rfl ?_
  refine xw_dup C dX5_newTree_39 rfl ?_
  refine xw_get C in5 0 rfl rfl 1 (by decide) m15 rfl rfl dX5_newTree_40 ?_
  refine xw_iconst C (1) dX5_newTree_43 (by decide) ?_
  refine xw_iadd C dX5_newTree_44 ?_
  refine xw_put (w' := w5 E o ad q u (ob_i x 1 (x.1 1 + 1)) (va_up gg (x.1 1).toNatClampNeg (some b)) ++ w4 E b a.1 a.2.1 a.2.2.1 a.2.2.2 (ob_i ob0 0 p1) (shp0 f1) ob0) C in5 tyX5 tyX5_ok nmX5 0 rfl rfl 1 (by decide) m15 rfl rfl rfl (Nat.le_of_ble_eq_true rfl) rfl dX5_newTree_45 ?_
  refine xw_aload_n C dX5_newTree_48 rfl 0 rfl ?_
  refine xw_get C in5 0 rfl rfl 1 (by decide) m15 rfl rfl dX5_newTree_49 ?_
  refine xw_iconst C (1) dX5_newTree_52 (by decide) ?_
  refine xw_isub C dX5_newTree_53 ?_
  exact xw_iretM (b, a.1, a.2.1, a.2.2.1, a.2.2.2) C hr rfl dX5_newTree_54
abbrev rmX5_tree_M : Room := { frames := 4, cells := 9, slots := 434, locals := 85 }
abbrev rmX5_tree_F : Room := { frames := 1, cells := 0, slots := 0, locals := 21 }
set_option maxHeartbeats 4000000 in
set_option maxRecDepth 100000 in
theorem ok_X5_tree_K {l : Launch} {E : En} {o q u : Nat} {ad : Nat → Nat} {gg : Nat → Option Nat} {x : Ob} {p1 : Int32} (hk : p1 < 0 ∨ 5 < p1) : CI l yX5_tree wsX5_tree rmX5_tree_F [.ref o, .int p1] E (w5 E o ad q u x gg) (w5 E o ad q u x gg) (-1) := by
  refine xc_I (by decide) rfl (Nat.le_of_ble_eq_true rfl) [(0, .ref o), (1, .int p1)] rfl (fun p e s m below meth c A C hr => ?_)
  refine xw_iload_n C dX5_tree_0 rfl 1 rfl ?_
  refine xw_if_lt C 9 dX5_tree_1 (by decide) (fun c1 => ?_) (fun c1 => ?_)
  · refine xw_iconst C (-1) dX5_tree_9 (by decide) ?_
    exact xw_iret C hr dX5_tree_10
  · refine xw_iload_n C dX5_tree_4 rfl 1 rfl ?_
    refine xw_iconst C (5) dX5_tree_5 (by decide) ?_
    refine xw_icmp_le C 11 dX5_tree_6 (by decide) (fun c2 => ?_) (fun c2 => ?_)
    · rcases hk with h | h
      · exact absurd h c1
      · exact absurd c2 (by rw [Int32.not_le]; exact h)
    · refine xw_iconst C (-1) dX5_tree_9 (by decide) ?_
      exact xw_iret C hr dX5_tree_10
set_option maxHeartbeats 4000000 in
set_option maxRecDepth 100000 in
theorem ok_X5_tree_F {l : Launch} {E : En} {o q u : Nat} {ad : Nat → Nat} {gg : Nat → Option Nat} {x : Ob} {p1 : Int32} (hk : ¬ p1 < 0) (hk2 : p1 ≤ 5) (h1 : x.1 1 < 0 ∨ nI 8 ≤ x.1 1) : CI l yX5_tree wsX5_tree rmX5_tree_F [.ref o, .int p1] E (w5 E o ad q u x gg) (w5 E o ad q u x gg) (-1) := by
  refine xc_I (by decide) rfl (Nat.le_of_ble_eq_true rfl) [(0, .ref o), (1, .int p1)] rfl (fun p e s m below meth c A C hr => ?_)
  refine xw_iload_n C dX5_tree_0 rfl 1 rfl ?_
  refine xw_if_lt C 9 dX5_tree_1 (by decide) (fun c1 => absurd c1 hk) (fun c1 => ?_)
  refine xw_iload_n C dX5_tree_4 rfl 1 rfl ?_
  refine xw_iconst C (5) dX5_tree_5 (by decide) ?_
  refine xw_icmp_le C 11 dX5_tree_6 (by decide) (fun c2 => ?_) (fun c2 => absurd hk2 c2)
  refine xw_aload_n C dX5_tree_11 rfl 0 rfl ?_
  refine xw_iload_n C dX5_tree_12 rfl 1 rfl ?_
  refine xw_callVI (w' := w5 E o ad q u x gg) (u := []) (v := []) C (ok_X5_newTree_F h1) 1 gX5_tree_X5_newTree rfl ⟨rfl, rfl⟩ (by decide +kernel) ⟨Nat.le_of_ble_eq_true rfl, Nat.le_of_ble_eq_true rfl⟩ 0 5 rfl rfl rfl (Nat.le_of_ble_eq_true rfl) ⟨Nat.zero_le _, Nat.zero_le _⟩ rfl xe0 xe0.symm dX5_tree_13 ?_
  exact xw_iret C hr dX5_tree_16
set_option maxHeartbeats 4000000 in
set_option maxRecDepth 100000 in
theorem ok_X5_tree_M {l : Launch} {E : En} {o q u : Nat} {ad : Nat → Nat} {gg : Nat → Option Nat} {x : Ob} {p1 : Int32} {f1 : Nat → Int32} (hf : fJ7_fill_53178 64 (-1) (fun _ => 0) = some f1) (hk : ¬ p1 < 0) (hk2 : p1 ≤ 5) (h1 : ¬ x.1 1 < 0) (h2 : x.1 1 < nI 8) : CMI l yX5_tree wsX5_tree rmX5_tree_M [.ref o, .int p1] E (w5 E o ad q u x gg) (fun a : TA => w5 E o ad q u (ob_i x 1 (x.1 1 + 1)) (va_up gg (x.1 1).toNatClampNeg (some a.1)) ++ wN E a p1 f1) (x.1 1 + 1 - 1) := by
  refine xc_MI (by decide) rfl (Nat.le_of_ble_eq_true rfl) [(0, .ref o), (1, .int p1)] rfl (fun p e s m below meth c A C hr => ?_)
  refine xw_iload_n C dX5_tree_0 rfl 1 rfl ?_
  refine xw_if_lt C 9 dX5_tree_1 (by decide) (fun c1 => absurd c1 hk) (fun c1 => ?_)
  refine xw_iload_n C dX5_tree_4 rfl 1 rfl ?_
  refine xw_iconst C (5) dX5_tree_5 (by decide) ?_
  refine xw_icmp_le C 11 dX5_tree_6 (by decide) (fun c2 => ?_) (fun c2 => absurd hk2 c2)
  refine xw_aload_n C dX5_tree_11 rfl 0 rfl ?_
  refine xw_iload_n C dX5_tree_12 rfl 1 rfl ?_
  refine xw_callVM (u := []) (v := []) C (ok_X5_newTree_M hf h1 h2) 1 gX5_tree_X5_newTree rfl (by decide +kernel) ⟨Nat.le_of_ble_eq_true rfl, Nat.le_of_ble_eq_true rfl⟩ 0 5 rfl rfl rfl (Nat.le_of_ble_eq_true rfl) ⟨Nat.le_of_ble_eq_true rfl, Nat.le_of_ble_eq_true rfl⟩ rfl xe0 dX5_tree_13 (fun a => ?_)
  exact xw_iretM a C hr xe0.symm dX5_tree_16
abbrev rmX5_split_F : Room := { frames := 1, cells := 0, slots := 0, locals := 21 }
abbrev rmX5_split_M : Room := { frames := 4, cells := 9, slots := 434, locals := 93 }
set_option maxHeartbeats 4000000 in
set_option maxRecDepth 100000 in
theorem ok_X5_split_N {l : Launch} {E : En} {o q u : Nat} {ad : Nat → Nat} {gg : Nat → Option Nat} {x : Ob} {p1 p2 : Int32} (ht : tref gg p1 = none) : CI l yX5_split wsX5_split rmX5_split_F [.ref o, .int p1, .int p2] E (w5 E o ad q u x gg) (w5 E o ad q u x gg) (-1) := by
  refine xc_I (by decide) rfl (Nat.le_of_ble_eq_true rfl) [(0, .ref o), (1, .int p1), (2, .int p2)] rfl (fun p e s m below meth c A C hr => ?_)
  refine xw_aload_n C dX5_split_0 rfl 0 rfl ?_
  refine xw_iload_n C dX5_split_1 rfl 1 rfl ?_
  refine xw_callVQ (w' := w5 E o ad q u x gg) (u := []) (v := []) C (ok_X5_treeOf (o := o) (q := q) (u := u) (ad := ad) (g := gg) (x := x)) 1 gX5_split_X5_treeOf rfl ⟨rfl, rfl⟩ (by decide +kernel) ⟨Nat.le_of_ble_eq_true rfl, Nat.le_of_ble_eq_true rfl⟩ 0 5 rfl rfl rfl (Nat.le_of_ble_eq_true rfl) ⟨Nat.zero_le _, Nat.zero_le _⟩ rfl xe0 xe0.symm dX5_split_2 (.null) (by rw [ht]; rfl) ?_
  refine xw_astore_nN C dX5_split_5 rfl (by decide) (lv' := [(3, .null), (0, .ref o), (1, .int p1), (2, .int p2)]) rfl ?_
  refine xw_aload_nN C dX5_split_6 rfl 0 rfl ?_
  refine xw_ifnull_n C 17 dX5_split_7 (by decide) ?_
  refine xw_iconst C (-1) dX5_split_17 (by decide) ?_
  exact xw_iret C hr dX5_split_18
set_option maxHeartbeats 4000000 in
set_option maxRecDepth 100000 in
theorem ok_X5_split_K {l : Launch} {E : En} {o q u : Nat} {ad : Nat → Nat} {gg : Nat → Option Nat} {x : Ob} {p1 p2 : Int32} {b1 : Nat} (ht : tref gg p1 = some b1) (hk : fX5_isKey p2 = some 0) : CI l yX5_split wsX5_split rmX5_split_F [.ref o, .int p1, .int p2] E (w5 E o ad q u x gg) (w5 E o ad q u x gg) (-1) := by
  refine xc_I (by decide) rfl (Nat.le_of_ble_eq_true rfl) [(0, .ref o), (1, .int p1), (2, .int p2)] rfl (fun p e s m below meth c A C hr => ?_)
  refine xw_aload_n C dX5_split_0 rfl 0 rfl ?_
  refine xw_iload_n C dX5_split_1 rfl 1 rfl ?_
  refine xw_callVQ (w' := w5 E o ad q u x gg) (u := []) (v := []) C (ok_X5_treeOf (o := o) (q := q) (u := u) (ad := ad) (g := gg) (x := x)) 1 gX5_split_X5_treeOf rfl ⟨rfl, rfl⟩ (by decide +kernel) ⟨Nat.le_of_ble_eq_true rfl, Nat.le_of_ble_eq_true rfl⟩ 0 5 rfl rfl rfl (Nat.le_of_ble_eq_true rfl) ⟨Nat.zero_le _, Nat.zero_le _⟩ rfl xe0 xe0.symm dX5_split_2 (.ref b1) (by rw [ht]; rfl) ?_
  refine xw_astore_n C dX5_split_5 rfl (by decide) (lv' := [(3, .ref b1), (0, .ref o), (1, .int p1), (2, .int p2)]) rfl ?_
  refine xw_aload_n C dX5_split_6 rfl 0 rfl ?_
  refine xw_ifnull_r C dX5_split_7 ?_
  refine xw_iload_n C dX5_split_10 rfl 3 rfl ?_
  refine xw_callSI (w' := w5 E o ad q u x gg) (u := []) (v := w5 E o ad q u x gg) C (ok_X5_isKey hk) 1 gX5_split_X5_isKey rfl ⟨rfl, rfl⟩ (by decide +kernel) ⟨Nat.le_of_ble_eq_true rfl, Nat.le_of_ble_eq_true rfl⟩ rfl (Nat.le_of_ble_eq_true rfl) ⟨Nat.zero_le _, Nat.zero_le _⟩ rfl rfl rfl dX5_split_11 ?_
  refine xw_if_ne C 19 dX5_split_14 (by decide) (fun c1 => absurd rfl c1) (fun c1 => ?_)
  refine xw_iconst C (-1) dX5_split_17 (by decide) ?_
  exact xw_iret C hr dX5_split_18
set_option maxHeartbeats 4000000 in
set_option maxRecDepth 100000 in
theorem ok_X5_split_F {l : Launch} {E : En} {o q u : Nat} {ad : Nat → Nat} {gg : Nat → Option Nat} {x : Ob} {p1 p2 : Int32} {o1 q1 u1 : Nat} {ad1 bd1 : Nat → Nat} {x1 y1 z1 : Ob} (ht : tref gg p1 = some o1) (hk : fX5_isKey p2 = some 1) (h1 : x.1 1 < 0 ∨ nI 8 ≤ x.1 1) : CI l yX5_split wsX5_split rmX5_split_F [.ref o, .int p1, .int p2] E (w4 E o1 q1 u1 ad1 bd1 x1 y1 z1 ++ w5 E o ad q u x gg) (w4 E o1 q1 u1 ad1 bd1 x1 y1 z1 ++ w5 E o ad q u x gg) (-1) := by
  refine xc_I (by decide) rfl (Nat.le_of_ble_eq_true rfl) [(0, .ref o), (1, .int p1), (2, .int p2)] rfl (fun p e s m below meth c A C hr => ?_)
  have in4 : ∀ w ∈ wsX40, w ∈ wsX5_split := by decide +kernel
  have m80 : Cond.fieldLink RX5 80 "TurningTrees$Tree" "kind" "I" ∈ wsX5_split := by decide +kernel
  refine xw_aload_n C dX5_split_0 rfl 0 rfl ?_
  refine xw_iload_n C dX5_split_1 rfl 1 rfl ?_
  refine xw_callVQ (w' := w4 E o1 q1 u1 ad1 bd1 x1 y1 z1 ++ w5 E o ad q u x gg) (u := w4 E o1 q1 u1 ad1 bd1 x1 y1 z1) (v := []) C (ok_X5_treeOf (o := o) (q := q) (u := u) (ad := ad) (g := gg) (x := x)) 1 gX5_split_X5_treeOf rfl ⟨rfl, rfl⟩ (by decide +kernel) ⟨Nat.le_of_ble_eq_true rfl, Nat.le_of_ble_eq_true rfl⟩ 0 5 rfl rfl rfl (Nat.le_of_ble_eq_true rfl) ⟨Nat.zero_le _, Nat.zero_le _⟩ rfl (List.append_nil _).symm (List.append_nil _) dX5_split_2 (.ref o1) (by rw [ht]; rfl) ?_
  refine xw_astore_n C dX5_split_5 rfl (by decide) (lv' := [(3, .ref o1), (0, .ref o), (1, .int p1), (2, .int p2)]) rfl ?_
  refine xw_aload_n C dX5_split_6 rfl 0 rfl ?_
  refine xw_ifnull_r C dX5_split_7 ?_
  refine xw_iload_n C dX5_split_10 rfl 3 rfl ?_
  refine xw_callSI (w' := w4 E o1 q1 u1 ad1 bd1 x1 y1 z1 ++ w5 E o ad q u x gg) (u := []) (v := w4 E o1 q1 u1 ad1 bd1 x1 y1 z1 ++ w5 E o ad q u x gg) C (ok_X5_isKey hk) 1 gX5_split_X5_isKey rfl ⟨rfl, rfl⟩ (by decide +kernel) ⟨Nat.le_of_ble_eq_true rfl, Nat.le_of_ble_eq_true rfl⟩ rfl (Nat.le_of_ble_eq_true rfl) ⟨Nat.zero_le _, Nat.zero_le _⟩ rfl rfl rfl dX5_split_11 ?_
  refine xw_if_ne C 19 dX5_split_14 (by decide) (fun c1 => ?_) (fun c1 => absurd c1 (by decide))
  refine xw_aload_n C dX5_split_19 rfl 1 rfl ?_
  refine xw_aload_n C dX5_split_20 rfl 0 rfl ?_
  refine xw_get C in4 0 rfl rfl 0 (by decide) m80 rfl rfl dX5_split_21 ?_
  refine xw_callVI (w' := w4 E o1 q1 u1 ad1 bd1 x1 y1 z1 ++ w5 E o ad q u x gg) (u := w4 E o1 q1 u1 ad1 bd1 x1 y1 z1) (v := []) C (ok_X5_newTree_F h1) 1 gX5_split_X5_newTree rfl ⟨rfl, rfl⟩ (by decide +kernel) ⟨Nat.le_of_ble_eq_true rfl, Nat.le_of_ble_eq_true rfl⟩ 0 5 rfl rfl rfl (Nat.le_of_ble_eq_true rfl) ⟨Nat.zero_le _, Nat.zero_le _⟩ rfl (List.append_nil _).symm (List.append_nil _) dX5_split_24 ?_
  refine xw_istore C dX5_split_27 (by decide) (lv' := [(4, .int (-1)), (3, .ref o1), (0, .ref o), (1, .int p1), (2, .int p2)]) rfl ?_
  refine xw_aload_n C dX5_split_29 rfl 2 rfl ?_
  refine xw_iload C dX5_split_30 0 rfl ?_
  refine xw_callVQ (w' := w4 E o1 q1 u1 ad1 bd1 x1 y1 z1 ++ w5 E o ad q u x gg) (u := w4 E o1 q1 u1 ad1 bd1 x1 y1 z1) (v := []) C (ok_X5_treeOf (o := o) (q := q) (u := u) (ad := ad) (g := gg) (x := x)) 1 gX5_split_X5_treeOf rfl ⟨rfl, rfl⟩ (by decide +kernel) ⟨Nat.le_of_ble_eq_true rfl, Nat.le_of_ble_eq_true rfl⟩ 0 5 rfl rfl rfl (Nat.le_of_ble_eq_true rfl) ⟨Nat.zero_le _, Nat.zero_le _⟩ rfl (List.append_nil _).symm (List.append_nil _) dX5_split_32 (.null) (by rw [tref, if_pos (by decide)]; rfl) ?_
  refine xw_astoreN C dX5_split_35 (by decide) (lv' := [(5, .null), (4, .int (-1)), (3, .ref o1), (0, .ref o), (1, .int p1), (2, .int p2)]) rfl ?_
  refine xw_aloadN C dX5_split_37 0 rfl ?_
  refine xw_ifnonnull_n C dX5_split_39 ?_
  refine xw_iconst C (-1) dX5_split_42 (by decide) ?_
  exact xw_iret C hr dX5_split_43
set_option maxHeartbeats 4000000 in
set_option maxRecDepth 100000 in
theorem ok_X5_split_M {l : Launch} {E : En} {o q u : Nat} {ad : Nat → Nat} {gg : Nat → Option Nat} {x : Ob} {p1 p2 : Int32} {o1 q1 u1 : Nat} {ad1 bd1 : Nat → Nat} {x1 y1 z1 : Ob} {f1 : Nat → Int32} {r : Ob × Ob} {x1b xnb : Ob} (hf : fJ7_fill_53178 64 (-1) (fun _ => 0) = some f1) (ht : tref gg p1 = some o1) (hk : fX5_isKey p2 = some 1) (h1 : ¬ x.1 1 < 0) (h2 : x.1 1 < nI 8) (hc : fX3_cutAt p2 y1 (shp0 f1) = some r) (hb1 : fX4_beginMost x1 r.1 = some x1b) (hb2 : fX4_beginMost (ob_i ob0 0 (x1.1 0)) r.2 = some xnb) : CMI l yX5_split wsX5_split rmX5_split_M [.ref o, .int p1, .int p2] E (w4 E o1 q1 u1 ad1 bd1 x1 y1 z1 ++ w5 E o ad q u x gg) (fun a : TA => w4 E o1 q1 u1 ad1 bd1 x1b r.1 z1 ++ w4 E a.1 a.2.1 a.2.2.1 a.2.2.2.1 a.2.2.2.2 xnb r.2 ob0 ++ w5 E o ad q u (ob_i x 1 (x.1 1 + 1)) (va_up gg (x.1 1).toNatClampNeg (some a.1))) (x.1 1 + 1 - 1) := by
  refine xc_MI (by decide) rfl (Nat.le_of_ble_eq_true rfl) [(0, .ref o), (1, .int p1), (2, .int p2)] rfl (fun p e s m below meth c A C hr => ?_)
  have in4 : ∀ w ∈ wsX40, w ∈ wsX5_split := by decide +kernel
  have m80 : Cond.fieldLink RX5 80 "TurningTrees$Tree" "kind" "I" ∈ wsX5_split := by decide +kernel
  have m55 : Cond.fieldLink RX5 55 "TurningTrees$Tree" "shape" "LTurningTrees$Shape;" ∈ wsX5_split := by decide +kernel
  refine xw_aload_n C dX5_split_0 rfl 0 rfl ?_
  refine xw_iload_n C dX5_split_1 rfl 1 rfl ?_
  refine xw_callVQ (w' := w4 E o1 q1 u1 ad1 bd1 x1 y1 z1 ++ w5 E o ad q u x gg) (u := w4 E o1 q1 u1 ad1 bd1 x1 y1 z1) (v := []) C (ok_X5_treeOf (o := o) (q := q) (u := u) (ad := ad) (g := gg) (x := x)) 1 gX5_split_X5_treeOf rfl ⟨rfl, rfl⟩ (by decide +kernel) ⟨Nat.le_of_ble_eq_true rfl, Nat.le_of_ble_eq_true rfl⟩ 0 5 rfl rfl rfl (Nat.le_of_ble_eq_true rfl) ⟨Nat.zero_le _, Nat.zero_le _⟩ rfl (List.append_nil _).symm (List.append_nil _) dX5_split_2 (.ref o1) (by rw [ht]; rfl) ?_
  refine xw_astore_n C dX5_split_5 rfl (by decide) (lv' := [(3, .ref o1), (0, .ref o), (1, .int p1), (2, .int p2)]) rfl ?_
  refine xw_aload_n C dX5_split_6 rfl 0 rfl ?_
  refine xw_ifnull_r C dX5_split_7 ?_
  refine xw_iload_n C dX5_split_10 rfl 3 rfl ?_
  refine xw_callSI (w' := w4 E o1 q1 u1 ad1 bd1 x1 y1 z1 ++ w5 E o ad q u x gg) (u := []) (v := w4 E o1 q1 u1 ad1 bd1 x1 y1 z1 ++ w5 E o ad q u x gg) C (ok_X5_isKey hk) 1 gX5_split_X5_isKey rfl ⟨rfl, rfl⟩ (by decide +kernel) ⟨Nat.le_of_ble_eq_true rfl, Nat.le_of_ble_eq_true rfl⟩ rfl (Nat.le_of_ble_eq_true rfl) ⟨Nat.zero_le _, Nat.zero_le _⟩ rfl rfl rfl dX5_split_11 ?_
  refine xw_if_ne C 19 dX5_split_14 (by decide) (fun c1 => ?_) (fun c1 => absurd c1 (by decide))
  refine xw_aload_n C dX5_split_19 rfl 1 rfl ?_
  refine xw_aload_n C dX5_split_20 rfl 0 rfl ?_
  refine xw_get C in4 0 rfl rfl 0 (by decide) m80 rfl rfl dX5_split_21 ?_
  refine xw_callVM (u := w4 E o1 q1 u1 ad1 bd1 x1 y1 z1) (v := []) C (ok_X5_newTree_M hf h1 h2) 1 gX5_split_X5_newTree rfl (by decide +kernel) ⟨Nat.le_of_ble_eq_true rfl, Nat.le_of_ble_eq_true rfl⟩ 0 5 rfl rfl rfl (Nat.le_of_ble_eq_true rfl) ⟨Nat.le_of_ble_eq_true rfl, Nat.le_of_ble_eq_true rfl⟩ rfl (List.append_nil _).symm dX5_split_24 (fun a => ?_)
  refine xw_world (w2 := w4 E o1 q1 u1 ad1 bd1 x1 y1 z1 ++ w4 E a.1 a.2.1 a.2.2.1 a.2.2.2.1 a.2.2.2.2 (ob_i ob0 0 (x1.1 0)) (shp0 f1) ob0 ++ w5 E o ad q u (ob_i x 1 (x.1 1 + 1)) (va_up gg (x.1 1).toNatClampNeg (some a.1))) [0, 1, 2, 3, 4, 5, 6, 7, 8, 13, 14, 15, 16, 17, 18, 19, 20, 21, 9, 10, 11, 12] rfl rfl rfl ?_
  refine xw_istore C dX5_split_27 (by decide) (lv' := [(4, .int (x.1 1 + 1 - 1)), (3, .ref o1), (0, .ref o), (1, .int p1), (2, .int p2)]) rfl ?_
  refine xw_aload_n C dX5_split_29 rfl 2 rfl ?_
  refine xw_iload C dX5_split_30 0 rfl ?_
  refine xw_callVQ (w' := w4 E o1 q1 u1 ad1 bd1 x1 y1 z1 ++ w4 E a.1 a.2.1 a.2.2.1 a.2.2.2.1 a.2.2.2.2 (ob_i ob0 0 (x1.1 0)) (shp0 f1) ob0 ++ w5 E o ad q u (ob_i x 1 (x.1 1 + 1)) (va_up gg (x.1 1).toNatClampNeg (some a.1))) (u := w4 E o1 q1 u1 ad1 bd1 x1 y1 z1 ++ w4 E a.1 a.2.1 a.2.2.1 a.2.2.2.1 a.2.2.2.2 (ob_i ob0 0 (x1.1 0)) (shp0 f1) ob0) (v := []) C (ok_X5_treeOf (o := o) (q := q) (u := u) (ad := ad) (g := (va_up gg (x.1 1).toNatClampNeg (some a.1))) (x := (ob_i x 1 (x.1 1 + 1)))) 1 gX5_split_X5_treeOf rfl ⟨rfl, rfl⟩ (by decide +kernel) ⟨Nat.le_of_ble_eq_true rfl, Nat.le_of_ble_eq_true rfl⟩ 0 5 rfl rfl rfl (Nat.le_of_ble_eq_true rfl) ⟨Nat.le_of_ble_eq_true rfl, Nat.le_of_ble_eq_true rfl⟩ rfl (List.append_nil _).symm (List.append_nil _) dX5_split_32 (.ref a.1) (by rw [tref_new h1 h2]; rfl) ?_
  refine xw_astore C dX5_split_35 (by decide) (lv' := [(5, .ref a.1), (4, .int (x.1 1 + 1 - 1)), (3, .ref o1), (0, .ref o), (1, .int p1), (2, .int p2)]) rfl ?_
  refine xw_aload C dX5_split_37 0 rfl ?_
  refine xw_ifnonnull_r C 44 dX5_split_39 (by decide) ?_
  refine xw_aload_n C dX5_split_44 rfl 2 rfl ?_
  refine xw_get C in4 0 rfl rfl 1 (by decide) m55 rfl rfl dX5_split_45 ?_
  refine xw_iload_n C dX5_split_48 rfl 5 rfl ?_
  refine xw_aload C dX5_split_49 0 rfl ?_
  refine xw_get C in4 9 rfl rfl 1 (by decide) m55 rfl rfl dX5_split_51 ?_
  refine xw_world (w2 := w3 E q1 ad1 y1 ++ w3 E a.2.1 a.2.2.2.1 (shp0 f1) ++ (wT o1 q1 u1 x1 ++ w2 E u1 bd1 z1 ++ wT a.1 a.2.1 a.2.2.1 (ob_i ob0 0 (x1.1 0)) ++ w2 E a.2.2.1 a.2.2.2.2 ob0 ++ w5 E o ad q u (ob_i x 1 (x.1 1 + 1)) (va_up gg (x.1 1).toNatClampNeg (some a.1)))) [1, 2, 3, 4, 5, 6, 10, 11, 12, 13, 14, 15, 0, 7, 8, 9, 16, 17, 18, 19, 20, 21] rfl rfl rfl ?_
  refine xw_callVV (w' := w3 E q1 ad1 r.1 ++ w3 E a.2.1 a.2.2.2.1 r.2 ++ (wT o1 q1 u1 x1 ++ w2 E u1 bd1 z1 ++ wT a.1 a.2.1 a.2.2.1 (ob_i ob0 0 (x1.1 0)) ++ w2 E a.2.2.1 a.2.2.2.2 ob0 ++ w5 E o ad q u (ob_i x 1 (x.1 1 + 1)) (va_up gg (x.1 1).toNatClampNeg (some a.1)))) (u := []) (v := wT o1 q1 u1 x1 ++ w2 E u1 bd1 z1 ++ wT a.1 a.2.1 a.2.2.1 (ob_i ob0 0 (x1.1 0)) ++ w2 E a.2.2.1 a.2.2.2.2 ob0 ++ w5 E o ad q u (ob_i x 1 (x.1 1 + 1)) (va_up gg (x.1 1).toNatClampNeg (some a.1))) C (ok_X3_cutAt (o := q1) (ad := ad1) (o1 := a.2.1) (ad1 := a.2.2.2.1) hc) 2 gX5_split_X3_cutAt rfl ⟨rfl, rfl⟩ (by decide +kernel) ⟨Nat.le_of_ble_eq_true rfl, Nat.le_of_ble_eq_true rfl⟩ 0 3 rfl rfl rfl (Nat.le_of_ble_eq_true rfl) ⟨Nat.le_of_ble_eq_true rfl, Nat.le_of_ble_eq_true rfl⟩ rfl rfl rfl dX5_split_54 ?_
  refine xw_world (w2 := w4 E o1 q1 u1 ad1 bd1 x1 r.1 z1 ++ w4 E a.1 a.2.1 a.2.2.1 a.2.2.2.1 a.2.2.2.2 (ob_i ob0 0 (x1.1 0)) r.2 ob0 ++ w5 E o ad q u (ob_i x 1 (x.1 1 + 1)) (va_up gg (x.1 1).toNatClampNeg (some a.1))) [12, 0, 1, 2, 3, 4, 5, 13, 14, 15, 6, 7, 8, 9, 10, 11, 16, 17, 18, 19, 20, 21] rfl rfl rfl ?_
  refine xw_aload_n C dX5_split_57 rfl 2 rfl ?_
  refine xw_callVV (w' := w4 E o1 q1 u1 ad1 bd1 x1b r.1 z1 ++ w4 E a.1 a.2.1 a.2.2.1 a.2.2.2.1 a.2.2.2.2 (ob_i ob0 0 (x1.1 0)) r.2 ob0 ++ w5 E o ad q u (ob_i x 1 (x.1 1 + 1)) (va_up gg (x.1 1).toNatClampNeg (some a.1))) (u := []) (v := (w4 E o1 q1 u1 ad1 bd1 x1 r.1 z1 ++ w4 E a.1 a.2.1 a.2.2.1 a.2.2.2.1 a.2.2.2.2 (ob_i ob0 0 (x1.1 0)) r.2 ob0 ++ w5 E o ad q u (ob_i x 1 (x.1 1 + 1)) (va_up gg (x.1 1).toNatClampNeg (some a.1))).drop 9) C (ok_X4_beginMost (o := o1) (q := q1) (u := u1) (ad := ad1) (bd := bd1) (z := z1) hb1) 0 gX5_split_X4_beginMost rfl ⟨rfl, rfl⟩ (by decide +kernel) ⟨Nat.le_of_ble_eq_true rfl, Nat.le_of_ble_eq_true rfl⟩ 0 4 rfl rfl rfl (Nat.le_of_ble_eq_true rfl) ⟨Nat.le_of_ble_eq_true rfl, Nat.le_of_ble_eq_true rfl⟩ rfl rfl rfl dX5_split_58 ?_
  refine xw_aload C dX5_split_61 0 rfl ?_
  refine xw_callVV (w' := w4 E o1 q1 u1 ad1 bd1 x1b r.1 z1 ++ w4 E a.1 a.2.1 a.2.2.1 a.2.2.2.1 a.2.2.2.2 xnb r.2 ob0 ++ w5 E o ad q u (ob_i x 1 (x.1 1 + 1)) (va_up gg (x.1 1).toNatClampNeg (some a.1))) (u := (w4 E o1 q1 u1 ad1 bd1 x1b r.1 z1 ++ w4 E a.1 a.2.1 a.2.2.1 a.2.2.2.1 a.2.2.2.2 (ob_i ob0 0 (x1.1 0)) r.2 ob0 ++ w5 E o ad q u (ob_i x 1 (x.1 1 + 1)) (va_up gg (x.1 1).toNatClampNeg (some a.1))).take 9) (v := (w4 E o1 q1 u1 ad1 bd1 x1b r.1 z1 ++ w4 E a.1 a.2.1 a.2.2.1 a.2.2.2.1 a.2.2.2.2 (ob_i ob0 0 (x1.1 0)) r.2 ob0 ++ w5 E o ad q u (ob_i x 1 (x.1 1 + 1)) (va_up gg (x.1 1).toNatClampNeg (some a.1))).drop 18) C (ok_X4_beginMost (o := a.1) (q := a.2.1) (u := a.2.2.1) (ad := a.2.2.2.1) (bd := a.2.2.2.2) (z := ob0) hb2) 0 gX5_split_X4_beginMost rfl ⟨rfl, rfl⟩ (by decide +kernel) ⟨Nat.le_of_ble_eq_true rfl, Nat.le_of_ble_eq_true rfl⟩ 0 4 rfl rfl rfl (Nat.le_of_ble_eq_true rfl) ⟨Nat.le_of_ble_eq_true rfl, Nat.le_of_ble_eq_true rfl⟩ rfl rfl rfl dX5_split_63 ?_
  refine xw_iload C dX5_split_66 1 rfl ?_
  exact xw_iretM a C hr rfl dX5_split_68
