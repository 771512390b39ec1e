def fX4_lopsidedAbove_L11 : Nat → Int32 → Int32 → Ob → Option (Int32)
  | 0, _, _, _ => none
  | n + 1, v2, v3, y =>
  (if (64) ≤ v3 then
    some (-1)
  else
    (if v2 = (-1) then
      some (-1)
    else
      Option.bind (fX4_isLopsided v2 y) (fun q24 =>
      (if q24 = 0 then
        Option.bind (fX3_upOf v2 y) (fun q37 =>
        px_let (v3 + (1) : Int32) (fun b41 =>
        fX4_lopsidedAbove_L11 n q37 b41 y))
      else
        some v2))))
def fX4_lopsidedAbove (p1 : Int32) (y : Ob) : Option (Int32) :=
  Option.bind (fX3_upOf p1 y) (fun q5 =>
  fX4_lopsidedAbove_L11 FU q5 (0) y)
abbrev rmX4_lopsidedAbove : Room := { frames := 3, cells := 0, slots := 0, locals := 64 }
set_option maxHeartbeats 4000000 in
set_option maxRecDepth 100000 in
theorem ok_X4_lopsidedAbove {l : Launch} {E : En} {o : Nat} {q : Nat} {u : Nat} {ad : (Nat → Nat)} {bd : (Nat → Nat)} {p1 : Int32} {x : Ob} {y : Ob} {z : Ob} {r : Int32} (hf : fX4_lopsidedAbove p1 y = some r) : CI l yX4_lopsidedAbove wsX4_lopsidedAbove (rmX4_lopsidedAbove) [.ref o, .int p1] E (w4 E o q u ad bd x y z) (w4 E o q u ad bd x y z) (r) := by
  refine xc_I (by decide) rfl (Nat.le_of_ble_eq_true rfl) [(0, .ref o), (1, .int p1)] rfl (fun p e s m below meth c A C hr => ?_)
  generalize ([.ref o, .int p1] : List Value).toArray = args at C ⊢
  obtain ⟨Z, hZ⟩ : ∃ Z, Z = ZI E (w4 E o q u ad bd x y z) (r) A below args s 0 0 := ⟨_, rfl⟩
  rw [← hZ]
  have in4 : ∀ w ∈ wsX40, w ∈ wsX4_lopsidedAbove := by decide +kernel
  have m18 : Cond.fieldLink RX4 18 "TurningTrees$Tree" "shape" "LTurningTrees$Shape;" ∈ wsX4_lopsidedAbove := by decide +kernel
  have hL11 : ∀ n : Nat, ∀ (v2 : Int32), ∀ (v3 : Int32), fX4_lopsidedAbove_L11 n v2 v3 y = some r → XW E p l e rmX4_lopsidedAbove s m args below meth c Z A 0 0 (w4 E o q u ad bd x y z) 11 4 [(0, .ref o), (2, .int v2), (3, .int v3)] [] := by
    intro n
    induction n with
    | zero =>
      intro v2 v3 h
      rw [fX4_lopsidedAbove_L11] at h
      cases h
    | succ n ih =>
      intro v2 v3 h
      rw [fX4_lopsidedAbove_L11] at h
      refine xw_iload_n C dX4_lopsidedAbove_11 rfl 2 rfl ?_
      refine xw_bipush C (64) dX4_lopsidedAbove_12 (by decide) ?_
      refine xw_icmp_ge C 47 dX4_lopsidedAbove_14 (by decide) (fun c14 => ?_) (fun c14 => ?_)
      · have h := px_t c14 h
        refine xw_iconst C (-1) dX4_lopsidedAbove_47 (by decide) ?_
        cases h
        rw [hZ]
        exact xw_iret C hr dX4_lopsidedAbove_48
      · have h := px_f c14 h
        refine xw_iload_n C dX4_lopsidedAbove_17 rfl 1 rfl ?_
        refine xw_iconst C (-1) dX4_lopsidedAbove_18 (by decide) ?_
        refine xw_icmp_eq C 47 dX4_lopsidedAbove_19 (by decide) (fun c19 => ?_) (fun c19 => ?_)
        · have h := px_t c19 h
          refine xw_iconst C (-1) dX4_lopsidedAbove_47 (by decide) ?_
          cases h
          rw [hZ]
          exact xw_iret C hr dX4_lopsidedAbove_48
        · have h := px_f c19 h
          refine xw_aload_n C dX4_lopsidedAbove_22 rfl 0 rfl ?_
          refine xw_iload_n C dX4_lopsidedAbove_23 rfl 1 rfl ?_
          obtain ⟨q24, eq24, h⟩ := px_b h
          refine xw_callVI (w' := w4 E o q u ad bd x y z) (u := []) (v := []) C (ok_X4_isLopsided (o := o) (q := q) (u := u) (ad := ad) (bd := bd) (x := x) (y := y) (z := z) eq24) 1 gX4_lopsidedAbove_X4_isLopsided rfl ⟨rfl, rfl⟩ (by decide +kernel) ⟨Nat.le_of_ble_eq_true rfl, Nat.le_of_ble_eq_true rfl⟩ 0 4 rfl rfl rfl (Nat.le_of_ble_eq_true rfl) ⟨Nat.zero_le _, Nat.zero_le _⟩ rfl xe0 xe0.symm dX4_lopsidedAbove_24 ?_
          refine xw_if_eq C 32 dX4_lopsidedAbove_27 (by decide) (fun c27 => ?_) (fun c27 => ?_)
          · have h := px_t c27 h
            refine xw_aload_n C dX4_lopsidedAbove_32 rfl 0 rfl ?_
            refine xw_get C in4 0 rfl rfl 1 (by decide) m18 rfl rfl dX4_lopsidedAbove_33 ?_
            refine xw_iload_n C dX4_lopsidedAbove_36 rfl 1 rfl ?_
            obtain ⟨q37, eq37, h⟩ := px_b h
            refine xw_callVI (w' := w4 E o q u ad bd x y z) (u := (w4 E o q u ad bd x y z).take 1) (v := (w4 E o q u ad bd x y z).drop 7) C (ok_X3_upOf (o := q) (ad := ad) (x := y) eq37) 1 gX4_lopsidedAbove_X3_upOf rfl ⟨rfl, rfl⟩ (by decide +kernel) ⟨Nat.le_of_ble_eq_true rfl, Nat.le_of_ble_eq_true rfl⟩ 0 3 rfl rfl rfl (Nat.le_of_ble_eq_true rfl) ⟨Nat.zero_le _, Nat.zero_le _⟩ rfl rfl (by rfl) dX4_lopsidedAbove_37 ?_
            refine xw_istore_n C dX4_lopsidedAbove_40 rfl (by decide) (lv' := [(2, .int q37), (0, .ref o), (3, .int v3)]) rfl ?_
            refine px_n h (fun b41 eb41 h => ?_)
            refine xw_iinc (v := b41) C dX4_lopsidedAbove_41 2 rfl eb41 (by decide) (lv' := [(3, .int b41), (2, .int q37), (0, .ref o)]) rfl ?_
            refine xw_goto C 11 dX4_lopsidedAbove_44 (by decide) ?_
            refine xw_perm [2, 1, 0] rfl ?_
            exact ih _ _ h
          · have h := px_f c27 h
            refine xw_iload_n C dX4_lopsidedAbove_30 rfl 1 rfl ?_
            cases h
            rw [hZ]
            exact xw_iret C hr dX4_lopsidedAbove_31
  rw [fX4_lopsidedAbove] at hf
  have h := hf
  refine xw_aload_n C dX4_lopsidedAbove_0 rfl 0 rfl ?_
  refine xw_get C in4 0 rfl rfl 1 (by decide) m18 rfl rfl dX4_lopsidedAbove_1 ?_
  refine xw_iload_n C dX4_lopsidedAbove_4 rfl 1 rfl ?_
  obtain ⟨q5, eq5, h⟩ := px_b h
  refine xw_callVI (w' := w4 E o q u ad bd x y z) (u := (w4 E o q u ad bd x y z).take 1) (v := (w4 E o q u ad bd x y z).drop 7) C (ok_X3_upOf (o := q) (ad := ad) (x := y) eq5) 1 gX4_lopsidedAbove_X3_upOf rfl ⟨rfl, rfl⟩ (by decide +kernel) ⟨Nat.le_of_ble_eq_true rfl, Nat.le_of_ble_eq_true rfl⟩ 0 3 rfl rfl rfl (Nat.le_of_ble_eq_true rfl) ⟨Nat.zero_le _, Nat.zero_le _⟩ rfl rfl (by rfl) dX4_lopsidedAbove_5 ?_
  refine xw_istore_n C dX4_lopsidedAbove_8 rfl (by decide) (lv' := [(2, .int q5), (0, .ref o), (1, .int p1)]) rfl ?_
  refine xw_iconst C (0) dX4_lopsidedAbove_9 (by decide) ?_
  refine xw_istore_n C dX4_lopsidedAbove_10 rfl (by decide) (lv' := [(3, .int (0)), (2, .int q5), (0, .ref o), (1, .int p1)]) rfl ?_
  refine xw_perm [2, 1, 0] rfl ?_
  exact hL11 _ _ _ h
def fX4_beginMost_J20 (s0 : Int32) (x : Ob) (y : Ob) : Option (Ob) :=
  px_let (ob_i x 4 s0) (fun x_20 =>
  some x_20)
def fX4_beginMost (x : Ob) (y : Ob) : Option (Ob) :=
  (if (x.1 0) = (4) then
    Option.bind (fX3_keysHeld y) (fun q13 =>
    fX4_beginMost_J20 q13 x y)
  else
    fX4_beginMost_J20 (0) x y)
abbrev rmX4_beginMost : Room := { frames := 2, cells := 0, slots := 0, locals := 41 }
set_option maxHeartbeats 4000000 in
set_option maxRecDepth 100000 in
theorem ok_X4_beginMost {l : Launch} {E : En} {o : Nat} {q : Nat} {u : Nat} {ad : (Nat → Nat)} {bd : (Nat → Nat)} {x : Ob} {y : Ob} {z : Ob} {r : Ob} (hf : fX4_beginMost x y = some r) : CV l yX4_beginMost wsX4_beginMost (rmX4_beginMost) [.ref o] E (w4 E o q u ad bd x y z) (w4 E o q u ad bd r y z) := by
  refine xc_V (by decide) rfl (Nat.le_of_ble_eq_true rfl) [(0, .ref o)] rfl (fun p e s m below meth c A C hr => ?_)
  generalize ([.ref o] : List Value).toArray = args at C ⊢
  obtain ⟨Z, hZ⟩ : ∃ Z, Z = ZV E (w4 E o q u ad bd r y z) A below args s 0 0 := ⟨_, rfl⟩
  rw [← hZ]
  have in4 : ∀ w ∈ wsX40, w ∈ wsX4_beginMost := by decide +kernel
  have m9 : Cond.fieldLink RX4 9 "TurningTrees$Tree" "kind" "I" ∈ wsX4_beginMost := by decide +kernel
  have m18 : Cond.fieldLink RX4 18 "TurningTrees$Tree" "shape" "LTurningTrees$Shape;" ∈ wsX4_beginMost := by decide +kernel
  have m32 : Cond.fieldLink RX4 32 "TurningTrees$Tree" "most" "I" ∈ wsX4_beginMost := by decide +kernel
  have hJ20 : ∀ (s0 : Int32), ∀ (x : Ob), fX4_beginMost_J20 s0 x y = some r → XW E p l e rmX4_beginMost s m args below meth c Z A 0 0 (w4 E o q u ad bd x y z) 20 1 [] [.int s0, .ref o] := by
    intro s0 x h
    rw [fX4_beginMost_J20] at h
    refine px_n h (fun x_20 ex_20 h => ?_)
    refine xw_put (w' := w4 E o q u ad bd x_20 y z) C in4 tyX4 tyX4_ok nmX4 0 rfl rfl 4 (by decide) m32 rfl rfl rfl (Nat.le_of_ble_eq_true rfl) (by rw [ex_20]; rfl) dX4_beginMost_20 ?_
    cases h
    rw [hZ]
    exact xw_vret C hr dX4_beginMost_23
  rw [fX4_beginMost] at hf
  have h := hf
  refine xw_aload_n C dX4_beginMost_0 rfl 0 rfl ?_
  refine xw_aload_n C dX4_beginMost_1 rfl 0 rfl ?_
  refine xw_get C in4 0 rfl rfl 0 (by decide) m9 rfl rfl dX4_beginMost_2 ?_
  refine xw_iconst C (4) dX4_beginMost_5 (by decide) ?_
  refine xw_icmp_ne C 19 dX4_beginMost_6 (by decide) (fun c6 => ?_) (fun c6 => ?_)
  · have h := px_f c6 h
    refine xw_iconst C (0) dX4_beginMost_19 (by decide) ?_
    refine xw_perm [] rfl ?_
    exact hJ20 _ _ h
  · have h := px_t c6 h
    refine xw_aload_n C dX4_beginMost_9 rfl 0 rfl ?_
    refine xw_get C in4 0 rfl rfl 1 (by decide) m18 rfl rfl dX4_beginMost_10 ?_
    obtain ⟨q13, eq13, h⟩ := px_b h
    refine xw_callVI (w' := w4 E o q u ad bd x y z) (u := (w4 E o q u ad bd x y z).take 1) (v := (w4 E o q u ad bd x y z).drop 7) C (ok_X3_keysHeld (o := q) (ad := ad) (x := y) eq13) 0 gX4_beginMost_X3_keysHeld rfl ⟨rfl, rfl⟩ (by decide +kernel) ⟨Nat.le_of_ble_eq_true rfl, Nat.le_of_ble_eq_true rfl⟩ 0 3 rfl rfl rfl (Nat.le_of_ble_eq_true rfl) ⟨Nat.zero_le _, Nat.zero_le _⟩ rfl rfl (by rfl) dX4_beginMost_13 ?_
    refine xw_goto C 20 dX4_beginMost_16 (by decide) ?_
    refine xw_perm [] rfl ?_
    exact hJ20 _ _ h
def fX4_evenOut_J16 (v1 : Int32) (s0 : Int32) (x : Ob) (y : Ob) : Option (Ob × Ob) :=
  Option.bind (fX3_makeEven v1 y) (fun q22 =>
  (if s0 = 0 then
    some (x, q22)
  else
    Option.bind (fX4_beginMost x q22) (fun q30 =>
    some (q30, q22))))
def fX4_evenOut (p1 : Int32) (x : Ob) (y : Ob) : Option (Ob × Ob) :=
  (if p1 = (y.1 5) then
    fX4_evenOut_J16 p1 (1) x y
  else
    fX4_evenOut_J16 p1 (0) x y)
abbrev rmX4_evenOut : Room := { frames := 74, cells := 0, slots := 0, locals := 1845 }
set_option maxHeartbeats 4000000 in
set_option maxRecDepth 100000 in
theorem ok_X4_evenOut {l : Launch} {E : En} {o : Nat} {q : Nat} {u : Nat} {ad : (Nat → Nat)} {bd : (Nat → Nat)} {p1 : Int32} {x : Ob} {y : Ob} {z : Ob} {r : Ob × Ob} (hf : fX4_evenOut p1 x y = some r) : CV l yX4_evenOut wsX4_evenOut (rmX4_evenOut) [.ref o, .int p1] E (w4 E o q u ad bd x y z) (w4 E o q u ad bd r.1 r.2 z) := by
  refine xc_V (by decide) rfl (Nat.le_of_ble_eq_true rfl) [(0, .ref o), (1, .int p1)] rfl (fun p e s m below meth c A C hr => ?_)
  generalize ([.ref o, .int p1] : List Value).toArray = args at C ⊢
  obtain ⟨Z, hZ⟩ : ∃ Z, Z = ZV E (w4 E o q u ad bd r.1 r.2 z) A below args s 0 0 := ⟨_, rfl⟩
  rw [← hZ]
  have in3 : ∀ w ∈ wsX30, w ∈ wsX4_evenOut := by decide +kernel
  have in4 : ∀ w ∈ wsX40, w ∈ wsX4_evenOut := by decide +kernel
  have m18 : Cond.fieldLink RX4 18 "TurningTrees$Tree" "shape" "LTurningTrees$Shape;" ∈ wsX4_evenOut := by decide +kernel
  have m85 : Cond.fieldLink RX4 85 "TurningTrees$Shape" "root" "I" ∈ wsX4_evenOut := by decide +kernel
  have hJ16 : ∀ (v1 : Int32), ∀ (s0 : Int32), ∀ (x : Ob), ∀ (y : Ob), fX4_evenOut_J16 v1 s0 x y = some r → XW E p l e rmX4_evenOut s m args below meth c Z A 0 0 (w4 E o q u ad bd x y z) 16 3 [(0, .ref o), (1, .int v1)] [.int s0] := by
    intro v1 s0 x y h
    rw [fX4_evenOut_J16] at h
    refine xw_istore_n C dX4_evenOut_16 rfl (by decide) (lv' := [(2, .int s0), (0, .ref o), (1, .int v1)]) rfl ?_
    refine xw_aload_n C dX4_evenOut_17 rfl 1 rfl ?_
    refine xw_get C in4 0 rfl rfl 1 (by decide) m18 rfl rfl dX4_evenOut_18 ?_
    refine xw_iload_n C dX4_evenOut_21 rfl 2 rfl ?_
    obtain ⟨q22, eq22, h⟩ := px_b h
    refine xw_callVV (w' := w4 E o q u ad bd x q22 z) (u := (w4 E o q u ad bd x y z).take 1) (v := (w4 E o q u ad bd x y z).drop 7) C (ok_X3_makeEven (o := q) (ad := ad) (x := y) eq22) 1 gX4_evenOut_X3_makeEven rfl ⟨rfl, rfl⟩ (by decide +kernel) ⟨Nat.le_of_ble_eq_true rfl, Nat.le_of_ble_eq_true rfl⟩ 0 3 rfl rfl rfl (Nat.le_of_ble_eq_true rfl) ⟨Nat.zero_le _, Nat.zero_le _⟩ rfl rfl (by rfl) dX4_evenOut_22 ?_
    refine xw_iload_n C dX4_evenOut_25 rfl 0 rfl ?_
    refine xw_if_eq C 33 dX4_evenOut_26 (by decide) (fun c26 => ?_) (fun c26 => ?_)
    · have h := px_t c26 h
      cases h
      rw [hZ]
      exact xw_vret C hr dX4_evenOut_33
    · have h := px_f c26 h
      refine xw_aload_n C dX4_evenOut_29 rfl 1 rfl ?_
      obtain ⟨q30, eq30, h⟩ := px_b h
      refine xw_callVV (w' := w4 E o q u ad bd q30 q22 z) (u := []) (v := []) C (ok_X4_beginMost (o := o) (q := q) (u := u) (ad := ad) (bd := bd) (x := x) (y := q22) (z := z) eq30) 0 gX4_evenOut_X4_beginMost rfl ⟨rfl, rfl⟩ (by decide +kernel) ⟨Nat.le_of_ble_eq_true rfl, Nat.le_of_ble_eq_true rfl⟩ 0 4 rfl rfl rfl (Nat.le_of_ble_eq_true rfl) ⟨Nat.zero_le _, Nat.zero_le _⟩ rfl xe0 xe0.symm dX4_evenOut_30 ?_
      cases h
      rw [hZ]
      exact xw_vret C hr dX4_evenOut_33
  rw [fX4_evenOut] at hf
  have h := hf
  refine xw_iload_n C dX4_evenOut_0 rfl 1 rfl ?_
  refine xw_aload_n C dX4_evenOut_1 rfl 0 rfl ?_
  refine xw_get C in4 0 rfl rfl 1 (by decide) m18 rfl rfl dX4_evenOut_2 ?_
  refine xw_get C in3 1 rfl rfl 5 (by decide) m85 rfl rfl dX4_evenOut_5 ?_
  refine xw_icmp_ne C 15 dX4_evenOut_8 (by decide) (fun c8 => ?_) (fun c8 => ?_)
  · have h := px_f c8 h
    refine xw_iconst C (0) dX4_evenOut_15 (by decide) ?_
    exact hJ16 _ _ _ _ h
  · have h := px_t c8 h
    refine xw_iconst C (1) dX4_evenOut_11 (by decide) ?_
    refine xw_goto C 16 dX4_evenOut_12 (by decide) ?_
    exact hJ16 _ _ _ _ h
def fX5_weight (p0 : Int32) : Option (Int32) :=
  some ((((37) * p0) + (11)) &&& (63))
abbrev rmX5_weight : Room := { frames := 0, cells := 0, slots := 0, locals := 0 }
set_option maxHeartbeats 4000000 in
set_option maxRecDepth 100000 in
theorem ok_X5_weight {l : Launch} {E : En} {p0 : Int32} {r : Int32} (hf : fX5_weight p0 = some r) : CI l yX5_weight wsX5_weight (rmX5_weight) [.int p0] E ([]) ([]) (r) := by
  refine xc_I (by decide) rfl (Nat.le_of_ble_eq_true rfl) [(0, .int p0)] rfl (fun p e s m below meth c A C hr => ?_)
  generalize ([.int p0] : List Value).toArray = args at C ⊢
  obtain ⟨Z, hZ⟩ : ∃ Z, Z = ZI E ([]) (r) A below args s 0 0 := ⟨_, rfl⟩
  rw [← hZ]
  rw [fX5_weight] at hf
  have h := hf
  refine xw_bipush C (37) dX5_weight_0 (by decide) ?_
  refine xw_iload_n C dX5_weight_2 rfl 0 rfl ?_
  refine xw_imul C dX5_weight_3 ?_
  refine xw_bipush C (11) dX5_weight_4 (by decide) ?_
  refine xw_iadd C dX5_weight_6 ?_
  refine xw_bipush C (63) dX5_weight_7 (by decide) ?_
  refine xw_iand C dX5_weight_9 ?_
  cases h
  rw [hZ]
  exact xw_iret C hr dX5_weight_10
def fX4_riseByWeight_L2 : Nat → Int32 → Int32 → Ob → Option (Ob)
  | 0, _, _, _ => none
  | n + 1, v1, v2, y =>
  (if (64) ≤ v2 then
    some y
  else
    Option.bind (fX3_upOf v1 y) (fun q13 =>
    (if q13 = (-1) then
      some y
    else
      Option.bind (fX5_weight v1) (fun q23 =>
      Option.bind (fX5_weight q13) (fun q27 =>
      (if q27 < q23 then
        Option.bind (fX3_turn v1 y) (fun q39 =>
        px_let (v2 + (1) : Int32) (fun b42 =>
        fX4_riseByWeight_L2 n v1 b42 q39))
      else
        some y))))))
def fX4_riseByWeight (p1 : Int32) (y : Ob) : Option (Ob) :=
  fX4_riseByWeight_L2 FU p1 (0) y
abbrev rmX4_riseByWeight : Room := { frames := 3, cells := 0, slots := 0, locals := 67 }
set_option maxHeartbeats 4000000 in
set_option maxRecDepth 100000 in
theorem ok_X4_riseByWeight {l : Launch} {E : En} {o : Nat} {q : Nat} {u : Nat} {ad : (Nat → Nat)} {bd : (Nat → Nat)} {p1 : Int32} {x : Ob} {y : Ob} {z : Ob} {r : Ob} (hf : fX4_riseByWeight p1 y = some r) : CV l yX4_riseByWeight wsX4_riseByWeight (rmX4_riseByWeight) [.ref o, .int p1] E (w4 E o q u ad bd x y z) (w4 E o q u ad bd x r z) := by
  refine xc_V (by decide) rfl (Nat.le_of_ble_eq_true rfl) [(0, .ref o), (1, .int p1)] rfl (fun p e s m below meth c A C hr => ?_)
  generalize ([.ref o, .int p1] : List Value).toArray = args at C ⊢
  obtain ⟨Z, hZ⟩ : ∃ Z, Z = ZV E (w4 E o q u ad bd x r z) A below args s 0 0 := ⟨_, rfl⟩
  rw [← hZ]
  have in4 : ∀ w ∈ wsX40, w ∈ wsX4_riseByWeight := by decide +kernel
  have m18 : Cond.fieldLink RX4 18 "TurningTrees$Tree" "shape" "LTurningTrees$Shape;" ∈ wsX4_riseByWeight := by decide +kernel
  have hL2 : ∀ n : Nat, ∀ (v1 : Int32), ∀ (v2 : Int32), ∀ (y : Ob), fX4_riseByWeight_L2 n v1 v2 y = some r → XW E p l e rmX4_riseByWeight s m args below meth c Z A 0 0 (w4 E o q u ad bd x y z) 2 4 [(0, .ref o), (1, .int v1), (2, .int v2)] [] := by
    intro n
    induction n with
    | zero =>
      intro v1 v2 y h
      rw [fX4_riseByWeight_L2] at h
      cases h
    | succ n ih =>
      intro v1 v2 y h
      rw [fX4_riseByWeight_L2] at h
      refine xw_iload_n C dX4_riseByWeight_2 rfl 2 rfl ?_
      refine xw_bipush C (64) dX4_riseByWeight_3 (by decide) ?_
      refine xw_icmp_ge C 48 dX4_riseByWeight_5 (by decide) (fun c5 => ?_) (fun c5 => ?_)
      · have h := px_t c5 h
        cases h
        rw [hZ]
        exact xw_vret C hr dX4_riseByWeight_48
      · have h := px_f c5 h
        refine xw_aload_n C dX4_riseByWeight_8 rfl 0 rfl ?_
        refine xw_get C in4 0 rfl rfl 1 (by decide) m18 rfl rfl dX4_riseByWeight_9 ?_
        refine xw_iload_n C dX4_riseByWeight_12 rfl 1 rfl ?_
        obtain ⟨q13, eq13, h⟩ := px_b h
        refine xw_callVI (w' := w4 E o q u ad bd x y z) (u := (w4 E o q u ad bd x y z).take 1) (v := (w4 E o q u ad bd x y z).drop 7) C (ok_X3_upOf (o := q) (ad := ad) (x := y) eq13) 1 gX4_riseByWeight_X3_upOf rfl ⟨rfl, rfl⟩ (by decide +kernel) ⟨Nat.le_of_ble_eq_true rfl, Nat.le_of_ble_eq_true rfl⟩ 0 3 rfl rfl rfl (Nat.le_of_ble_eq_true rfl) ⟨Nat.zero_le _, Nat.zero_le _⟩ rfl rfl (by rfl) dX4_riseByWeight_13 ?_
        refine xw_istore_n C dX4_riseByWeight_16 rfl (by decide) (lv' := [(3, .int q13), (0, .ref o), (1, .int v1), (2, .int v2)]) rfl ?_
        refine xw_iload_n C dX4_riseByWeight_17 rfl 0 rfl ?_
        refine xw_iconst C (-1) dX4_riseByWeight_18 (by decide) ?_
        refine xw_icmp_eq C 33 dX4_riseByWeight_19 (by decide) (fun c19 => ?_) (fun c19 => ?_)
        · have h := px_t c19 h
          cases h
          rw [hZ]
          exact xw_vret C hr dX4_riseByWeight_33
        · have h := px_f c19 h
          refine xw_iload_n C dX4_riseByWeight_22 rfl 2 rfl ?_
          obtain ⟨q23, eq23, h⟩ := px_b h
          refine xw_callNI (w' := w4 E o q u ad bd x y z) (u := []) (v := w4 E o q u ad bd x y z) C (ok_X5_weight  eq23) 1 gX4_riseByWeight_X5_weight_n113 rfl ⟨rfl, rfl⟩ (by decide +kernel) (by decide +kernel) (by decide +kernel) (by decide +kernel) ⟨Nat.le_of_ble_eq_true rfl, Nat.le_of_ble_eq_true rfl⟩ rfl (Nat.le_of_ble_eq_true rfl) ⟨Nat.zero_le _, Nat.zero_le _⟩ rfl rfl rfl dX4_riseByWeight_23 ?_
          refine xw_iload_n C dX4_riseByWeight_26 rfl 0 rfl ?_
          obtain ⟨q27, eq27, h⟩ := px_b h
          refine xw_callNI (w' := w4 E o q u ad bd x y z) (u := []) (v := w4 E o q u ad bd x y z) C (ok_X5_weight  eq27) 1 gX4_riseByWeight_X5_weight_n113 rfl ⟨rfl, rfl⟩ (by decide +kernel) (by decide +kernel) (by decide +kernel) (by decide +kernel) ⟨Nat.le_of_ble_eq_true rfl, Nat.le_of_ble_eq_true rfl⟩ rfl (Nat.le_of_ble_eq_true rfl) ⟨Nat.zero_le _, Nat.zero_le _⟩ rfl rfl rfl dX4_riseByWeight_27 ?_
          refine xw_icmp_gt C 34 dX4_riseByWeight_30 (by decide) (fun c30 => ?_) (fun c30 => ?_)
          · have h := px_t c30 h
            refine xw_aload_n C dX4_riseByWeight_34 rfl 1 rfl ?_
            refine xw_get C in4 0 rfl rfl 1 (by decide) m18 rfl rfl dX4_riseByWeight_35 ?_
            refine xw_iload_n C dX4_riseByWeight_38 rfl 2 rfl ?_
            obtain ⟨q39, eq39, h⟩ := px_b h
            refine xw_callVV (w' := w4 E o q u ad bd x q39 z) (u := (w4 E o q u ad bd x y z).take 1) (v := (w4 E o q u ad bd x y z).drop 7) C (ok_X3_turn (o := q) (ad := ad) (x := y) eq39) 1 gX4_riseByWeight_X3_turn rfl ⟨rfl, rfl⟩ (by decide +kernel) ⟨Nat.le_of_ble_eq_true rfl, Nat.le_of_ble_eq_true rfl⟩ 0 3 rfl rfl rfl (Nat.le_of_ble_eq_true rfl) ⟨Nat.zero_le _, Nat.zero_le _⟩ rfl rfl (by rfl) dX4_riseByWeight_39 ?_
            refine px_n h (fun b42 eb42 h => ?_)
            refine xw_iinc (v := b42) C dX4_riseByWeight_42 3 rfl eb42 (by decide) (lv' := [(2, .int b42), (3, .int q13), (0, .ref o), (1, .int v1)]) rfl ?_
            refine xw_goto C 2 dX4_riseByWeight_45 (by decide) ?_
            refine xw_perm [2, 3, 0] rfl ?_
            exact ih _ _ _ h
          · have h := px_f c30 h
            cases h
            rw [hZ]
            exact xw_vret C hr dX4_riseByWeight_33
  rw [fX4_riseByWeight] at hf
  have h := hf
  refine xw_iconst C (0) dX4_riseByWeight_0 (by decide) ?_
  refine xw_istore_n C dX4_riseByWeight_1 rfl (by decide) (lv' := [(2, .int (0)), (0, .ref o), (1, .int p1)]) rfl ?_
  refine xw_perm [1, 2, 0] rfl ?_
  exact hL2 _ _ _ _ h
def fX4_splay_J115 (k2 : Int32 → Int32 → Ob → Option (Ob)) (v1 : Int32) (v2 : Int32) (y : Ob) : Option (Ob) :=
  px_let (v2 + (1) : Int32) (fun b115 =>
  k2 v1 b115 y)
def fX4_splay_J77 (k2 : Int32 → Int32 → Ob → Option (Ob)) (v1 : Int32) (v2 : Int32) (v3 : Int32) (s0 : Int32) (s1 : Int32) (y : Ob) : Option (Ob) :=
  (if s0 = s1 then
    Option.bind (fX3_turn v3 y) (fun q85 =>
    Option.bind (fX3_turn v1 q85) (fun q93 =>
    fX4_splay_J115 (k2) v1 v2 q93))
  else
    Option.bind (fX3_turn v1 y) (fun q104 =>
    Option.bind (fX3_turn v1 q104) (fun q112 =>
    fX4_splay_J115 (k2) v1 v2 q112)))
def fX4_splay_J66 (k2 : Int32 → Int32 → Ob → Option (Ob)) (v1 : Int32) (v2 : Int32) (v3 : Int32) (v4 : Int32) (s0 : Int32) (y : Ob) : Option (Ob) :=
  (if v4 ≤ v3 then
    fX4_splay_J77 (k2) v1 v2 v3 s0 (0) y
  else
    fX4_splay_J77 (k2) v1 v2 v3 s0 (1) y)
def fX4_splay_L2 : Nat → Int32 → Int32 → Ob → Option (Ob)
  | 0, _, _, _ => none
  | n + 1, v1, v2, y =>
  (if (64) ≤ v2 then
    some y
  else
    Option.bind (fX3_upOf v1 y) (fun q13 =>
    (if q13 = (-1) then
      some y
    else
      Option.bind (fX3_upOf v1 y) (fun q25 =>
      Option.bind (fX3_upOf q25 y) (fun q34 =>
      (if q34 = (-1) then
        Option.bind (fX3_turn v1 y) (fun q50 =>
        fX4_splay_J115 (fX4_splay_L2 n) v1 v2 q50)
      else
        (if q25 ≤ v1 then
          fX4_splay_J66 (fX4_splay_L2 n) v1 v2 q25 q34 (0) y
        else
          fX4_splay_J66 (fX4_splay_L2 n) v1 v2 q25 q34 (1) y)))))))
def fX4_splay (p1 : Int32) (y : Ob) : Option (Ob) :=
  fX4_splay_L2 FU p1 (0) y
abbrev rmX4_splay : Room := { frames := 3, cells := 0, slots := 0, locals := 67 }
set_option maxHeartbeats 4000000 in
set_option maxRecDepth 100000 in
theorem ok_X4_splay {l : Launch} {E : En} {o : Nat} {q : Nat} {u : Nat} {ad : (Nat → Nat)} {bd : (Nat → Nat)} {p1 : Int32} {x : Ob} {y : Ob} {z : Ob} {r : Ob} (hf : fX4_splay p1 y = some r) : CV l yX4_splay wsX4_splay (rmX4_splay) [.ref o, .int p1] E (w4 E o q u ad bd x y z) (w4 E o q u ad bd x r z) := by
  refine xc_V (by decide) rfl (Nat.le_of_ble_eq_true rfl) [(0, .ref o), (1, .int p1)] rfl (fun p e s m below meth c A C hr => ?_)
  generalize ([.ref o, .int p1] : List Value).toArray = args at C ⊢
  obtain ⟨Z, hZ⟩ : ∃ Z, Z = ZV E (w4 E o q u ad bd x r z) A below args s 0 0 := ⟨_, rfl⟩
  rw [← hZ]
  have in4 : ∀ w ∈ wsX40, w ∈ wsX4_splay := by decide +kernel
  have m18 : Cond.fieldLink RX4 18 "TurningTrees$Tree" "shape" "LTurningTrees$Shape;" ∈ wsX4_splay := by decide +kernel
  have hJ115 : ∀ (k2 : Int32 → Int32 → Ob → Option (Ob)), (∀ (v1 : Int32), ∀ (v2 : Int32), ∀ (y : Ob), k2 v1 v2 y = some r → XW E p l e rmX4_splay s m args below meth c Z A 0 0 (w4 E o q u ad bd x y z) 2 5 [(0, .ref o), (1, .int v1), (2, .int v2)] []) → ∀ (v1 : Int32), ∀ (v2 : Int32), ∀ (y : Ob), fX4_splay_J115 k2 v1 v2 y = some r → XW E p l e rmX4_splay s m args below meth c Z A 0 0 (w4 E o q u ad bd x y z) 115 5 [(0, .ref o), (1, .int v1), (2, .int v2)] [] := by
    intro k2 hk2 v1 v2 y h
    rw [fX4_splay_J115] at h
    refine px_n h (fun b115 eb115 h => ?_)
    refine xw_iinc (v := b115) C dX4_splay_115 2 rfl eb115 (by decide) (lv' := [(2, .int b115), (0, .ref o), (1, .int v1)]) rfl ?_
    refine xw_goto C 2 dX4_splay_118 (by decide) ?_
    refine xw_perm [1, 2, 0] rfl ?_
    exact hk2 _ _ _ h
  have hJ77 : ∀ (k2 : Int32 → Int32 → Ob → Option (Ob)), (∀ (v1 : Int32), ∀ (v2 : Int32), ∀ (y : Ob), k2 v1 v2 y = some r → XW E p l e rmX4_splay s m args below meth c Z A 0 0 (w4 E o q u ad bd x y z) 2 5 [(0, .ref o), (1, .int v1), (2, .int v2)] []) → ∀ (v1 : Int32), ∀ (v2 : Int32), ∀ (v3 : Int32), ∀ (s0 : Int32), ∀ (s1 : Int32), ∀ (y : Ob), fX4_splay_J77 k2 v1 v2 v3 s0 s1 y = some r → XW E p l e rmX4_splay s m args below meth c Z A 0 0 (w4 E o q u ad bd x y z) 77 5 [(0, .ref o), (1, .int v1), (2, .int v2), (3, .int v3)] [.int s1, .int s0] := by
    intro k2 hk2 v1 v2 v3 s0 s1 y h
    rw [fX4_splay_J77] at h
    refine xw_icmp_ne C 99 dX4_splay_77 (by decide) (fun c77 => ?_) (fun c77 => ?_)
    · have h := px_f c77 h
      refine xw_aload_n C dX4_splay_99 rfl 0 rfl ?_
      refine xw_get C in4 0 rfl rfl 1 (by decide) m18 rfl rfl dX4_splay_100 ?_
      refine xw_iload_n C dX4_splay_103 rfl 1 rfl ?_
      obtain ⟨q104, eq104, h⟩ := px_b h
      refine xw_callVV (w' := w4 E o q u ad bd x q104 z) (u := (w4 E o q u ad bd x y z).take 1) (v := (w4 E o q u ad bd x y z).drop 7) C (ok_X3_turn (o := q) (ad := ad) (x := y) eq104) 1 gX4_splay_X3_turn rfl ⟨rfl, rfl⟩ (by decide +kernel) ⟨Nat.le_of_ble_eq_true rfl, Nat.le_of_ble_eq_true rfl⟩ 0 3 rfl rfl rfl (Nat.le_of_ble_eq_true rfl) ⟨Nat.zero_le _, Nat.zero_le _⟩ rfl rfl (by rfl) dX4_splay_104 ?_
      refine xw_aload_n C dX4_splay_107 rfl 0 rfl ?_
      refine xw_get C in4 0 rfl rfl 1 (by decide) m18 rfl rfl dX4_splay_108 ?_
      refine xw_iload_n C dX4_splay_111 rfl 1 rfl ?_
      obtain ⟨q112, eq112, h⟩ := px_b h
      refine xw_callVV (w' := w4 E o q u ad bd x q112 z) (u := (w4 E o q u ad bd x q104 z).take 1) (v := (w4 E o q u ad bd x q104 z).drop 7) C (ok_X3_turn (o := q) (ad := ad) (x := q104) eq112) 1 gX4_splay_X3_turn rfl ⟨rfl, rfl⟩ (by decide +kernel) ⟨Nat.le_of_ble_eq_true rfl, Nat.le_of_ble_eq_true rfl⟩ 0 3 rfl rfl rfl (Nat.le_of_ble_eq_true rfl) ⟨Nat.zero_le _, Nat.zero_le _⟩ rfl rfl (by rfl) dX4_splay_112 ?_
      refine xw_perm [0, 1, 2] rfl ?_
      exact hJ115 _ hk2 _ _ _ h
    · have h := px_t c77 h
      refine xw_aload_n C dX4_splay_80 rfl 0 rfl ?_
      refine xw_get C in4 0 rfl rfl 1 (by decide) m18 rfl rfl dX4_splay_81 ?_
      refine xw_iload_n C dX4_splay_84 rfl 3 rfl ?_
      obtain ⟨q85, eq85, h⟩ := px_b h
      refine xw_callVV (w' := w4 E o q u ad bd x q85 z) (u := (w4 E o q u ad bd x y z).take 1) (v := (w4 E o q u ad bd x y z).drop 7) C (ok_X3_turn (o := q) (ad := ad) (x := y) eq85) 1 gX4_splay_X3_turn rfl ⟨rfl, rfl⟩ (by decide +kernel) ⟨Nat.le_of_ble_eq_true rfl, Nat.le_of_ble_eq_true rfl⟩ 0 3 rfl rfl rfl (Nat.le_of_ble_eq_true rfl) ⟨Nat.zero_le _, Nat.zero_le _⟩ rfl rfl (by rfl) dX4_splay_85 ?_
      refine xw_aload_n C dX4_splay_88 rfl 0 rfl ?_
      refine xw_get C in4 0 rfl rfl 1 (by decide) m18 rfl rfl dX4_splay_89 ?_
      refine xw_iload_n C dX4_splay_92 rfl 1 rfl ?_
      obtain ⟨q93, eq93, h⟩ := px_b h
      refine xw_callVV (w' := w4 E o q u ad bd x q93 z) (u := (w4 E o q u ad bd x q85 z).take 1) (v := (w4 E o q u ad bd x q85 z).drop 7) C (ok_X3_turn (o := q) (ad := ad) (x := q85) eq93) 1 gX4_splay_X3_turn rfl ⟨rfl, rfl⟩ (by decide +kernel) ⟨Nat.le_of_ble_eq_true rfl, Nat.le_of_ble_eq_true rfl⟩ 0 3 rfl rfl rfl (Nat.le_of_ble_eq_true rfl) ⟨Nat.zero_le _, Nat.zero_le _⟩ rfl rfl (by rfl) dX4_splay_93 ?_
      refine xw_goto C 115 dX4_splay_96 (by decide) ?_
      refine xw_perm [0, 1, 2] rfl ?_
      exact hJ115 _ hk2 _ _ _ h
  have hJ66 : ∀ (k2 : Int32 → Int32 → Ob → Option (Ob)), (∀ (v1 : Int32), ∀ (v2 : Int32), ∀ (y : Ob), k2 v1 v2 y = some r → XW E p l e rmX4_splay s m args below meth c Z A 0 0 (w4 E o q u ad bd x y z) 2 5 [(0, .ref o), (1, .int v1), (2, .int v2)] []) → ∀ (v1 : Int32), ∀ (v2 : Int32), ∀ (v3 : Int32), ∀ (v4 : Int32), ∀ (s0 : Int32), ∀ (y : Ob), fX4_splay_J66 k2 v1 v2 v3 v4 s0 y = some r → XW E p l e rmX4_splay s m args below meth c Z A 0 0 (w4 E o q u ad bd x y z) 66 5 [(0, .ref o), (1, .int v1), (2, .int v2), (3, .int v3), (4, .int v4)] [.int s0] := by
    intro k2 hk2 v1 v2 v3 v4 s0 y h
    rw [fX4_splay_J66] at h
    refine xw_iload_n C dX4_splay_66 rfl 3 rfl ?_
    refine xw_iload C dX4_splay_67 4 rfl ?_
    refine xw_icmp_ge C 76 dX4_splay_69 (by decide) (fun c69 => ?_) (fun c69 => ?_)
    · have h := px_t c69 h
      refine xw_iconst C (0) dX4_splay_76 (by decide) ?_
      refine xw_perm [0, 1, 2, 3] rfl ?_
      exact hJ77 _ hk2 _ _ _ _ _ _ h
    · have h := px_f c69 h
      refine xw_iconst C (1) dX4_splay_72 (by decide) ?_
      refine xw_goto C 77 dX4_splay_73 (by decide) ?_
      refine xw_perm [0, 1, 2, 3] rfl ?_
      exact hJ77 _ hk2 _ _ _ _ _ _ h
  have hL2 : ∀ n : Nat, ∀ (v1 : Int32), ∀ (v2 : Int32), ∀ (y : Ob), fX4_splay_L2 n v1 v2 y = some r → XW E p l e rmX4_splay s m args below meth c Z A 0 0 (w4 E o q u ad bd x y z) 2 5 [(0, .ref o), (1, .int v1), (2, .int v2)] [] := by
    intro n
    induction n with
    | zero =>
      intro v1 v2 y h
      rw [fX4_splay_L2] at h
      cases h
    | succ n ih =>
      intro v1 v2 y h
      rw [fX4_splay_L2] at h
      refine xw_iload_n C dX4_splay_2 rfl 2 rfl ?_
      refine xw_bipush C (64) dX4_splay_3 (by decide) ?_
      refine xw_icmp_ge C 121 dX4_splay_5 (by decide) (fun c5 => ?_) (fun c5 => ?_)
      · have h := px_t c5 h
        cases h
        rw [hZ]
        exact xw_vret C hr dX4_splay_121
      · have h := px_f c5 h
        refine xw_aload_n C dX4_splay_8 rfl 0 rfl ?_
        refine xw_get C in4 0 rfl rfl 1 (by decide) m18 rfl rfl dX4_splay_9 ?_
        refine xw_iload_n C dX4_splay_12 rfl 1 rfl ?_
        obtain ⟨q13, eq13, h⟩ := px_b h
        refine xw_callVI (w' := w4 E o q u ad bd x y z) (u := (w4 E o q u ad bd x y z).take 1) (v := (w4 E o q u ad bd x y z).drop 7) C (ok_X3_upOf (o := q) (ad := ad) (x := y) eq13) 1 gX4_splay_X3_upOf rfl ⟨rfl, rfl⟩ (by decide +kernel) ⟨Nat.le_of_ble_eq_true rfl, Nat.le_of_ble_eq_true rfl⟩ 0 3 rfl rfl rfl (Nat.le_of_ble_eq_true rfl) ⟨Nat.zero_le _, Nat.zero_le _⟩ rfl rfl (by rfl) dX4_splay_13 ?_
        refine xw_iconst C (-1) dX4_splay_16 (by decide) ?_
        refine xw_icmp_eq C 121 dX4_splay_17 (by decide) (fun c17 => ?_) (fun c17 => ?_)
        · have h := px_t c17 h
          cases h
          rw [hZ]
          exact xw_vret C hr dX4_splay_121
        · have h := px_f c17 h
          refine xw_aload_n C dX4_splay_20 rfl 0 rfl ?_
          refine xw_get C in4 0 rfl rfl 1 (by decide) m18 rfl rfl dX4_splay_21 ?_
          refine xw_iload_n C dX4_splay_24 rfl 1 rfl ?_
          obtain ⟨q25, eq25, h⟩ := px_b h
          refine xw_callVI (w' := w4 E o q u ad bd x y z) (u := (w4 E o q u ad bd x y z).take 1) (v := (w4 E o q u ad bd x y z).drop 7) C (ok_X3_upOf (o := q) (ad := ad) (x := y) eq25) 1 gX4_splay_X3_upOf rfl ⟨rfl, rfl⟩ (by decide +kernel) ⟨Nat.le_of_ble_eq_true rfl, Nat.le_of_ble_eq_true rfl⟩ 0 3 rfl rfl rfl (Nat.le_of_ble_eq_true rfl) ⟨Nat.zero_le _, Nat.zero_le _⟩ rfl rfl (by rfl) dX4_splay_25 ?_
          refine xw_istore_n C dX4_splay_28 rfl (by decide) (lv' := [(3, .int q25), (0, .ref o), (1, .int v1), (2, .int v2)]) rfl ?_
          refine xw_aload_n C dX4_splay_29 rfl 1 rfl ?_
          refine xw_get C in4 0 rfl rfl 1 (by decide) m18 rfl rfl dX4_splay_30 ?_
          refine xw_iload_n C dX4_splay_33 rfl 0 rfl ?_
          obtain ⟨q34, eq34, h⟩ := px_b h
          refine xw_callVI (w' := w4 E o q u ad bd x y z) (u := (w4 E o q u ad bd x y z).take 1) (v := (w4 E o q u ad bd x y z).drop 7) C (ok_X3_upOf (o := q) (ad := ad) (x := y) eq34) 1 gX4_splay_X3_upOf rfl ⟨rfl, rfl⟩ (by decide +kernel) ⟨Nat.le_of_ble_eq_true rfl, Nat.le_of_ble_eq_true rfl⟩ 0 3 rfl rfl rfl (Nat.le_of_ble_eq_true rfl) ⟨Nat.zero_le _, Nat.zero_le _⟩ rfl rfl (by rfl) dX4_splay_34 ?_
          refine xw_istore C dX4_splay_37 (by decide) (lv' := [(4, .int q34), (3, .int q25), (0, .ref o), (1, .int v1), (2, .int v2)]) rfl ?_
          refine xw_iload C dX4_splay_39 0 rfl ?_
          refine xw_iconst C (-1) dX4_splay_41 (by decide) ?_
          refine xw_icmp_ne C 56 dX4_splay_42 (by decide) (fun c42 => ?_) (fun c42 => ?_)
          · have h := px_f c42 h
            refine xw_iload_n C dX4_splay_56 rfl 3 rfl ?_
            refine xw_iload_n C dX4_splay_57 rfl 1 rfl ?_
            refine xw_icmp_ge C 65 dX4_splay_58 (by decide) (fun c58 => ?_) (fun c58 => ?_)
            · have h := px_t c58 h
              refine xw_iconst C (0) dX4_splay_65 (by decide) ?_
              refine xw_perm [2, 3, 4, 1, 0] rfl ?_
              exact hJ66 _ ih _ _ _ _ _ _ h
            · have h := px_f c58 h
              refine xw_iconst C (1) dX4_splay_61 (by decide) ?_
              refine xw_goto C 66 dX4_splay_62 (by decide) ?_
              refine xw_perm [2, 3, 4, 1, 0] rfl ?_
              exact hJ66 _ ih _ _ _ _ _ _ h
          · have h := px_t c42 h
            refine xw_aload_n C dX4_splay_45 rfl 2 rfl ?_
            refine xw_get C in4 0 rfl rfl 1 (by decide) m18 rfl rfl dX4_splay_46 ?_
            refine xw_iload_n C dX4_splay_49 rfl 3 rfl ?_
            obtain ⟨q50, eq50, h⟩ := px_b h
            refine xw_callVV (w' := w4 E o q u ad bd x q50 z) (u := (w4 E o q u ad bd x y z).take 1) (v := (w4 E o q u ad bd x y z).drop 7) C (ok_X3_turn (o := q) (ad := ad) (x := y) eq50) 1 gX4_splay_X3_turn rfl ⟨rfl, rfl⟩ (by decide +kernel) ⟨Nat.le_of_ble_eq_true rfl, Nat.le_of_ble_eq_true rfl⟩ 0 3 rfl rfl rfl (Nat.le_of_ble_eq_true rfl) ⟨Nat.zero_le _, Nat.zero_le _⟩ rfl rfl (by rfl) dX4_splay_50 ?_
            refine xw_goto C 115 dX4_splay_53 (by decide) ?_
            refine xw_perm [2, 3, 4] rfl ?_
            exact hJ115 _ ih _ _ _ h
  rw [fX4_splay] at hf
  have h := hf
  refine xw_iconst C (0) dX4_splay_0 (by decide) ?_
  refine xw_istore_n C dX4_splay_1 rfl (by decide) (lv' := [(2, .int (0)), (0, .ref o), (1, .int p1)]) rfl ?_
  refine xw_perm [1, 2, 0] rfl ?_
  exact hL2 _ _ _ _ h
def fX4_raiseToRoot_L2 : Nat → Int32 → Int32 → Ob → Option (Ob)
  | 0, _, _, _ => none
  | n + 1, v1, v2, y =>
  (if (64) ≤ v2 then
    some y
  else
    Option.bind (fX3_upOf v1 y) (fun q13 =>
    (if q13 = (-1) then
      some y
    else
      Option.bind (fX3_turn v1 y) (fun q25 =>
      px_let (v2 + (1) : Int32) (fun b28 =>
      fX4_raiseToRoot_L2 n v1 b28 q25)))))
def fX4_raiseToRoot (p1 : Int32) (y : Ob) : Option (Ob) :=
  fX4_raiseToRoot_L2 FU p1 (0) y
abbrev rmX4_raiseToRoot : Room := { frames := 3, cells := 0, slots := 0, locals := 67 }
set_option maxHeartbeats 4000000 in
set_option maxRecDepth 100000 in
theorem ok_X4_raiseToRoot {l : Launch} {E : En} {o : Nat} {q : Nat} {u : Nat} {ad : (Nat → Nat)} {bd : (Nat → Nat)} {p1 : Int32} {x : Ob} {y : Ob} {z : Ob} {r : Ob} (hf : fX4_raiseToRoot p1 y = some r) : CV l yX4_raiseToRoot wsX4_raiseToRoot (rmX4_raiseToRoot) [.ref o, .int p1] E (w4 E o q u ad bd x y z) (w4 E o q u ad bd x r z) := by
  refine xc_V (by decide) rfl (Nat.le_of_ble_eq_true rfl) [(0, .ref o), (1, .int p1)] rfl (fun p e s m below meth c A C hr => ?_)
  generalize ([.ref o, .int p1] : List Value).toArray = args at C ⊢
  obtain ⟨Z, hZ⟩ : ∃ Z, Z = ZV E (w4 E o q u ad bd x r z) A below args s 0 0 := ⟨_, rfl⟩
  rw [← hZ]
  have in4 : ∀ w ∈ wsX40, w ∈ wsX4_raiseToRoot := by decide +kernel
  have m18 : Cond.fieldLink RX4 18 "TurningTrees$Tree" "shape" "LTurningTrees$Shape;" ∈ wsX4_raiseToRoot := by decide +kernel
  have hL2 : ∀ n : Nat, ∀ (v1 : Int32), ∀ (v2 : Int32), ∀ (y : Ob), fX4_raiseToRoot_L2 n v1 v2 y = some r → XW E p l e rmX4_raiseToRoot s m args below meth c Z A 0 0 (w4 E o q u ad bd x y z) 2 3 [(0, .ref o), (1, .int v1), (2, .int v2)] [] := by
    intro n
    induction n with
    | zero =>
      intro v1 v2 y h
      rw [fX4_raiseToRoot_L2] at h
      cases h
    | succ n ih =>
      intro v1 v2 y h
      rw [fX4_raiseToRoot_L2] at h
      refine xw_iload_n C dX4_raiseToRoot_2 rfl 2 rfl ?_
      refine xw_bipush C (64) dX4_raiseToRoot_3 (by decide) ?_
      refine xw_icmp_ge C 34 dX4_raiseToRoot_5 (by decide) (fun c5 => ?_) (fun c5 => ?_)
      · have h := px_t c5 h
        cases h
        rw [hZ]
        exact xw_vret C hr dX4_raiseToRoot_34
      · have h := px_f c5 h
        refine xw_aload_n C dX4_raiseToRoot_8 rfl 0 rfl ?_
        refine xw_get C in4 0 rfl rfl 1 (by decide) m18 rfl rfl dX4_raiseToRoot_9 ?_
        refine xw_iload_n C dX4_raiseToRoot_12 rfl 1 rfl ?_
        obtain ⟨q13, eq13, h⟩ := px_b h
        refine xw_callVI (w' := w4 E o q u ad bd x y z) (u := (w4 E o q u ad bd x y z).take 1) (v := (w4 E o q u ad bd x y z).drop 7) C (ok_X3_upOf (o := q) (ad := ad) (x := y) eq13) 1 gX4_raiseToRoot_X3_upOf rfl ⟨rfl, rfl⟩ (by decide +kernel) ⟨Nat.le_of_ble_eq_true rfl, Nat.le_of_ble_eq_true rfl⟩ 0 3 rfl rfl rfl (Nat.le_of_ble_eq_true rfl) ⟨Nat.zero_le _, Nat.zero_le _⟩ rfl rfl (by rfl) dX4_raiseToRoot_13 ?_
        refine xw_iconst C (-1) dX4_raiseToRoot_16 (by decide) ?_
        refine xw_icmp_eq C 34 dX4_raiseToRoot_17 (by decide) (fun c17 => ?_) (fun c17 => ?_)
        · have h := px_t c17 h
          cases h
          rw [hZ]
          exact xw_vret C hr dX4_raiseToRoot_34
        · have h := px_f c17 h
          refine xw_aload_n C dX4_raiseToRoot_20 rfl 0 rfl ?_
          refine xw_get C in4 0 rfl rfl 1 (by decide) m18 rfl rfl dX4_raiseToRoot_21 ?_
          refine xw_iload_n C dX4_raiseToRoot_24 rfl 1 rfl ?_
          obtain ⟨q25, eq25, h⟩ := px_b h
          refine xw_callVV (w' := w4 E o q u ad bd x q25 z) (u := (w4 E o q u ad bd x y z).take 1) (v := (w4 E o q u ad bd x y z).drop 7) C (ok_X3_turn (o := q) (ad := ad) (x := y) eq25) 1 gX4_raiseToRoot_X3_turn rfl ⟨rfl, rfl⟩ (by decide +kernel) ⟨Nat.le_of_ble_eq_true rfl, Nat.le_of_ble_eq_true rfl⟩ 0 3 rfl rfl rfl (Nat.le_of_ble_eq_true rfl) ⟨Nat.zero_le _, Nat.zero_le _⟩ rfl rfl (by rfl) dX4_raiseToRoot_25 ?_
          refine px_n h (fun b28 eb28 h => ?_)
          refine xw_iinc (v := b28) C dX4_raiseToRoot_28 2 rfl eb28 (by decide) (lv' := [(2, .int b28), (0, .ref o), (1, .int v1)]) rfl ?_
          refine xw_goto C 2 dX4_raiseToRoot_31 (by decide) ?_
          refine xw_perm [1, 2, 0] rfl ?_
          exact ih _ _ _ h
  rw [fX4_raiseToRoot] at hf
  have h := hf
  refine xw_iconst C (0) dX4_raiseToRoot_0 (by decide) ?_
  refine xw_istore_n C dX4_raiseToRoot_1 rfl (by decide) (lv' := [(2, .int (0)), (0, .ref o), (1, .int p1)]) rfl ?_
  refine xw_perm [1, 2, 0] rfl ?_
  exact hL2 _ _ _ _ h
def fX4_act (p1 : Int32) (x : Ob) (y : Ob) : Option (Ob) :=
  (if p1 = (-1) then
    some y
  else
    (if (x.1 0) = (1) then
      Option.bind (fX4_splay p1 y) (fun q38 =>
      some q38)
    else
    (if (x.1 0) = (2) then
      Option.bind (fX3_turn p1 y) (fun q49 =>
      some q49)
    else
    (if (x.1 0) = (3) then
      Option.bind (fX4_raiseToRoot p1 y) (fun q57 =>
      some q57)
    else
      some y))))
abbrev rmX4_act : Room := { frames := 4, cells := 0, slots := 0, locals := 91 }
set_option maxHeartbeats 4000000 in
set_option maxRecDepth 100000 in
theorem ok_X4_act {l : Launch} {E : En} {o : Nat} {q : Nat} {u : Nat} {ad : (Nat → Nat)} {bd : (Nat → Nat)} {p1 : Int32} {x : Ob} {y : Ob} {z : Ob} {r : Ob} (hf : fX4_act p1 x y = some r) : CV l yX4_act wsX4_act (rmX4_act) [.ref o, .int p1] E (w4 E o q u ad bd x y z) (w4 E o q u ad bd x r z) := by
  refine xc_V (by decide) rfl (Nat.le_of_ble_eq_true rfl) [(0, .ref o), (1, .int p1)] rfl (fun p e s m below meth c A C hr => ?_)
  generalize ([.ref o, .int p1] : List Value).toArray = args at C ⊢
  obtain ⟨Z, hZ⟩ : ∃ Z, Z = ZV E (w4 E o q u ad bd x r z) A below args s 0 0 := ⟨_, rfl⟩
  rw [← hZ]
  have in4 : ∀ w ∈ wsX40, w ∈ wsX4_act := by decide +kernel
  have m9 : Cond.fieldLink RX4 9 "TurningTrees$Tree" "kind" "I" ∈ wsX4_act := by decide +kernel
  have m18 : Cond.fieldLink RX4 18 "TurningTrees$Tree" "shape" "LTurningTrees$Shape;" ∈ wsX4_act := by decide +kernel
  rw [fX4_act] at hf
  have h := hf
  refine xw_iload_n C dX4_act_0 rfl 1 rfl ?_
  refine xw_iconst C (-1) dX4_act_1 (by decide) ?_
  refine xw_icmp_ne C 6 dX4_act_2 (by decide) (fun c2 => ?_) (fun c2 => ?_)
  · have h := px_f c2 h
    refine xw_aload_n C dX4_act_6 rfl 0 rfl ?_
    refine xw_get C in4 0 rfl rfl 0 (by decide) m9 rfl rfl dX4_act_7 ?_
    refine Or.elim (px_c h) (fun q => ?_) (fun q => ?_)
    · obtain ⟨c10_1, h⟩ := q
      refine xw_tabIn (off := 26) C 36 dX4_act_10 (1) c10_1 (by decide) (by decide) (by decide) (by decide) ?_
      refine xw_aload_n C dX4_act_36 rfl 0 rfl ?_
      refine xw_iload_n C dX4_act_37 rfl 1 rfl ?_
      obtain ⟨q38, eq38, h⟩ := px_b h
      refine xw_callVV (w' := w4 E o q u ad bd x q38 z) (u := []) (v := []) C (ok_X4_splay (o := o) (q := q) (u := u) (ad := ad) (bd := bd) (x := x) (y := y) (z := z) eq38) 1 gX4_act_X4_splay rfl ⟨rfl, rfl⟩ (by decide +kernel) ⟨Nat.le_of_ble_eq_true rfl, Nat.le_of_ble_eq_true rfl⟩ 0 4 rfl rfl rfl (Nat.le_of_ble_eq_true rfl) ⟨Nat.zero_le _, Nat.zero_le _⟩ rfl xe0 xe0.symm dX4_act_38 ?_
      refine xw_goto C 63 dX4_act_41 (by decide) ?_
      cases h
      rw [hZ]
      exact xw_vret C hr dX4_act_63
    obtain ⟨c10_1, h⟩ := q
    refine Or.elim (px_c h) (fun q => ?_) (fun q => ?_)
    · obtain ⟨c10_2, h⟩ := q
      refine xw_tabIn (off := 34) C 44 dX4_act_10 (2) c10_2 (by decide) (by decide) (by decide) (by decide) ?_
      refine xw_aload_n C dX4_act_44 rfl 0 rfl ?_
      refine xw_get C in4 0 rfl rfl 1 (by decide) m18 rfl rfl dX4_act_45 ?_
      refine xw_iload_n C dX4_act_48 rfl 1 rfl ?_
      obtain ⟨q49, eq49, h⟩ := px_b h
      refine xw_callVV (w' := w4 E o q u ad bd x q49 z) (u := (w4 E o q u ad bd x y z).take 1) (v := (w4 E o q u ad bd x y z).drop 7) C (ok_X3_turn (o := q) (ad := ad) (x := y) eq49) 1 gX4_act_X3_turn rfl ⟨rfl, rfl⟩ (by decide +kernel) ⟨Nat.le_of_ble_eq_true rfl, Nat.le_of_ble_eq_true rfl⟩ 0 3 rfl rfl rfl (Nat.le_of_ble_eq_true rfl) ⟨Nat.zero_le _, Nat.zero_le _⟩ rfl rfl (by rfl) dX4_act_49 ?_
      refine xw_goto C 63 dX4_act_52 (by decide) ?_
      cases h
      rw [hZ]
      exact xw_vret C hr dX4_act_63
    obtain ⟨c10_2, h⟩ := q
    refine Or.elim (px_c h) (fun q => ?_) (fun q => ?_)
    · obtain ⟨c10_3, h⟩ := q
      refine xw_tabIn (off := 45) C 55 dX4_act_10 (3) c10_3 (by decide) (by decide) (by decide) (by decide) ?_
      refine xw_aload_n C dX4_act_55 rfl 0 rfl ?_
      refine xw_iload_n C dX4_act_56 rfl 1 rfl ?_
      obtain ⟨q57, eq57, h⟩ := px_b h
      refine xw_callVV (w' := w4 E o q u ad bd x q57 z) (u := []) (v := []) C (ok_X4_raiseToRoot (o := o) (q := q) (u := u) (ad := ad) (bd := bd) (x := x) (y := y) (z := z) eq57) 1 gX4_act_X4_raiseToRoot rfl ⟨rfl, rfl⟩ (by decide +kernel) ⟨Nat.le_of_ble_eq_true rfl, Nat.le_of_ble_eq_true rfl⟩ 0 4 rfl rfl rfl (Nat.le_of_ble_eq_true rfl) ⟨Nat.zero_le _, Nat.zero_le _⟩ rfl xe0 xe0.symm dX4_act_57 ?_
      refine xw_goto C 63 dX4_act_60 (by decide) ?_
      cases h
      rw [hZ]
      exact xw_vret C hr dX4_act_63
    obtain ⟨c10_3, h⟩ := q
    refine xw_tabOut C 63 dX4_act_10 (by have t1 := xt_ne (k := 1) c10_1 (by decide); have t2 := xt_ne (k := 2) c10_2 (by decide); have t3 := xt_ne (k := 3) c10_3 (by decide); omega) (by decide) ?_
    cases h
    rw [hZ]
    exact xw_vret C hr dX4_act_63
  · have h := px_t c2 h
    cases h
    rw [hZ]
    exact xw_vret C hr dX4_act_5
def fX4_takeIn (p1 : Int32) (x : Ob) (y : Ob) : Option (Int32 × Ob × Ob) :=
  Option.bind (fX3_lastOnWay p1 y) (fun q5 =>
  Option.bind (fX3_depthOf q5 y) (fun q14 =>
  Option.bind (fX3_hangNew p1 q5 y) (fun q24 =>
  (if (x.1 0) = (4) then
    Option.bind (fX3_keysHeld q24) (fun q44 =>
    px_let (ob_i x 4 (if (x.1 4) < q44 then q44 else (x.1 4))) (fun x_50 =>
    Option.bind (fX3_depthOf p1 q24) (fun q58 =>
    Option.bind (fX3_keysHeld q24) (fun q65 =>
    Option.bind (fX4_isTooDeep q58 q65) (fun q68 =>
    (if q68 = 0 then
      some (q14, x_50, q24)
    else
      Option.bind (fX4_lopsidedAbove p1 q24) (fun q77 =>
      Option.bind (fX4_evenOut q77 x_50 q24) (fun q80 =>
      some (q14, q80.1, q80.2)))))))))
  else
    (if (x.1 0) = (5) then
      Option.bind (fX4_riseByWeight p1 q24) (fun q96 =>
      some (q14, x, q96))
    else
      Option.bind (fX4_act p1 x q24) (fun q104 =>
      some (q14, x, q104)))))))
abbrev rmX4_takeIn : Room := { frames := 75, cells := 0, slots := 0, locals := 1867 }
set_option maxHeartbeats 4000000 in
set_option maxRecDepth 100000 in
theorem ok_X4_takeIn {l : Launch} {E : En} {o : Nat} {q : Nat} {u : Nat} {ad : (Nat → Nat)} {bd : (Nat → Nat)} {p1 : Int32} {x : Ob} {y : Ob} {z : Ob} {r : Int32 × Ob × Ob} (hf : fX4_takeIn p1 x y = some r) : CI l yX4_takeIn wsX4_takeIn (rmX4_takeIn) [.ref o, .int p1] E (w4 E o q u ad bd x y z) (w4 E o q u ad bd r.2.1 r.2.2 z) (r.1) := by
  refine xc_I (by decide) rfl (Nat.le_of_ble_eq_true rfl) [(0, .ref o), (1, .int p1)] rfl (fun p e s m below meth c A C hr => ?_)
  generalize ([.ref o, .int p1] : List Value).toArray = args at C ⊢
  obtain ⟨Z, hZ⟩ : ∃ Z, Z = ZI E (w4 E o q u ad bd r.2.1 r.2.2 z) (r.1) A below args s 0 0 := ⟨_, rfl⟩
  rw [← hZ]
  have in4 : ∀ w ∈ wsX40, w ∈ wsX4_takeIn := by decide +kernel
  have m9 : Cond.fieldLink RX4 9 "TurningTrees$Tree" "kind" "I" ∈ wsX4_takeIn := by decide +kernel
  have m18 : Cond.fieldLink RX4 18 "TurningTrees$Tree" "shape" "LTurningTrees$Shape;" ∈ wsX4_takeIn := by decide +kernel
  have m32 : Cond.fieldLink RX4 32 "TurningTrees$Tree" "most" "I" ∈ wsX4_takeIn := by decide +kernel
  rw [fX4_takeIn] at hf
  have h := hf
  refine xw_aload_n C dX4_takeIn_0 rfl 0 rfl ?_
  refine xw_get C in4 0 rfl rfl 1 (by decide) m18 rfl rfl dX4_takeIn_1 ?_
  refine xw_iload_n C dX4_takeIn_4 rfl 1 rfl ?_
  obtain ⟨q5, eq5, h⟩ := px_b h
  refine xw_callVI (w' := w4 E o q u ad bd x y z) (u := (w4 E o q u ad bd x y z).take 1) (v := (w4 E o q u ad bd x y z).drop 7) C (ok_X3_lastOnWay (o := q) (ad := ad) (x := y) eq5) 1 gX4_takeIn_X3_lastOnWay rfl ⟨rfl, rfl⟩ (by decide +kernel) ⟨Nat.le_of_ble_eq_true rfl, Nat.le_of_ble_eq_true rfl⟩ 0 3 rfl rfl rfl (Nat.le_of_ble_eq_true rfl) ⟨Nat.zero_le _, Nat.zero_le _⟩ rfl rfl (by rfl) dX4_takeIn_5 ?_
  refine xw_istore_n C dX4_takeIn_8 rfl (by decide) (lv' := [(2, .int q5), (0, .ref o), (1, .int p1)]) rfl ?_
  refine xw_aload_n C dX4_takeIn_9 rfl 1 rfl ?_
  refine xw_get C in4 0 rfl rfl 1 (by decide) m18 rfl rfl dX4_takeIn_10 ?_
  refine xw_iload_n C dX4_takeIn_13 rfl 0 rfl ?_
  obtain ⟨q14, eq14, h⟩ := px_b h
  refine xw_callVI (w' := w4 E o q u ad bd x y z) (u := (w4 E o q u ad bd x y z).take 1) (v := (w4 E o q u ad bd x y z).drop 7) C (ok_X3_depthOf (o := q) (ad := ad) (x := y) eq14) 1 gX4_takeIn_X3_depthOf rfl ⟨rfl, rfl⟩ (by decide +kernel) ⟨Nat.le_of_ble_eq_true rfl, Nat.le_of_ble_eq_true rfl⟩ 0 3 rfl rfl rfl (Nat.le_of_ble_eq_true rfl) ⟨Nat.zero_le _, Nat.zero_le _⟩ rfl rfl (by rfl) dX4_takeIn_14 ?_
  refine xw_istore_n C dX4_takeIn_17 rfl (by decide) (lv' := [(3, .int q14), (2, .int q5), (0, .ref o), (1, .int p1)]) rfl ?_
  refine xw_aload_n C dX4_takeIn_18 rfl 2 rfl ?_
  refine xw_get C in4 0 rfl rfl 1 (by decide) m18 rfl rfl dX4_takeIn_19 ?_
  refine xw_iload_n C dX4_takeIn_22 rfl 3 rfl ?_
  refine xw_iload_n C dX4_takeIn_23 rfl 1 rfl ?_
  obtain ⟨q24, eq24, h⟩ := px_b h
  refine xw_callVV (w' := w4 E o q u ad bd x q24 z) (u := (w4 E o q u ad bd x y z).take 1) (v := (w4 E o q u ad bd x y z).drop 7) C (ok_X3_hangNew (o := q) (ad := ad) (x := y) eq24) 2 gX4_takeIn_X3_hangNew rfl ⟨rfl, rfl⟩ (by decide +kernel) ⟨Nat.le_of_ble_eq_true rfl, Nat.le_of_ble_eq_true rfl⟩ 0 3 rfl rfl rfl (Nat.le_of_ble_eq_true rfl) ⟨Nat.zero_le _, Nat.zero_le _⟩ rfl rfl (by rfl) dX4_takeIn_24 ?_
  refine xw_aload_n C dX4_takeIn_27 rfl 2 rfl ?_
  refine xw_get C in4 0 rfl rfl 0 (by decide) m9 rfl rfl dX4_takeIn_28 ?_
  refine xw_iconst C (4) dX4_takeIn_31 (by decide) ?_
  refine xw_icmp_ne C 86 dX4_takeIn_32 (by decide) (fun c32 => ?_) (fun c32 => ?_)
  · have h := px_f c32 h
    refine xw_aload_n C dX4_takeIn_86 rfl 2 rfl ?_
    refine xw_get C in4 0 rfl rfl 0 (by decide) m9 rfl rfl dX4_takeIn_87 ?_
    refine xw_iconst C (5) dX4_takeIn_90 (by decide) ?_
    refine xw_icmp_ne C 102 dX4_takeIn_91 (by decide) (fun c91 => ?_) (fun c91 => ?_)
    · have h := px_f c91 h
      refine xw_aload_n C dX4_takeIn_102 rfl 2 rfl ?_
      refine xw_iload_n C dX4_takeIn_103 rfl 3 rfl ?_
      obtain ⟨q104, eq104, h⟩ := px_b h
      refine xw_callVV (w' := w4 E o q u ad bd x q104 z) (u := []) (v := []) C (ok_X4_act (o := o) (q := q) (u := u) (ad := ad) (bd := bd) (x := x) (y := q24) (z := z) eq104) 1 gX4_takeIn_X4_act rfl ⟨rfl, rfl⟩ (by decide +kernel) ⟨Nat.le_of_ble_eq_true rfl, Nat.le_of_ble_eq_true rfl⟩ 0 4 rfl rfl rfl (Nat.le_of_ble_eq_true rfl) ⟨Nat.zero_le _, Nat.zero_le _⟩ rfl xe0 xe0.symm dX4_takeIn_104 ?_
      refine xw_iload_n C dX4_takeIn_107 rfl 0 rfl ?_
      cases h
      rw [hZ]
      exact xw_iret C hr dX4_takeIn_108
    · have h := px_t c91 h
      refine xw_aload_n C dX4_takeIn_94 rfl 2 rfl ?_
      refine xw_iload_n C dX4_takeIn_95 rfl 3 rfl ?_
      obtain ⟨q96, eq96, h⟩ := px_b h
      refine xw_callVV (w' := w4 E o q u ad bd x q96 z) (u := []) (v := []) C (ok_X4_riseByWeight (o := o) (q := q) (u := u) (ad := ad) (bd := bd) (x := x) (y := q24) (z := z) eq96) 1 gX4_takeIn_X4_riseByWeight rfl ⟨rfl, rfl⟩ (by decide +kernel) ⟨Nat.le_of_ble_eq_true rfl, Nat.le_of_ble_eq_true rfl⟩ 0 4 rfl rfl rfl (Nat.le_of_ble_eq_true rfl) ⟨Nat.zero_le _, Nat.zero_le _⟩ rfl xe0 xe0.symm dX4_takeIn_96 ?_
      refine xw_goto C 107 dX4_takeIn_99 (by decide) ?_
      refine xw_iload_n C dX4_takeIn_107 rfl 0 rfl ?_
      cases h
      rw [hZ]
      exact xw_iret C hr dX4_takeIn_108
  · have h := px_t c32 h
    refine xw_aload_n C dX4_takeIn_35 rfl 2 rfl ?_
    refine xw_aload_n C dX4_takeIn_36 rfl 2 rfl ?_
    refine xw_get C in4 0 rfl rfl 4 (by decide) m32 rfl rfl dX4_takeIn_37 ?_
    refine xw_aload_n C dX4_takeIn_40 rfl 2 rfl ?_
    refine xw_get C in4 0 rfl rfl 1 (by decide) m18 rfl rfl dX4_takeIn_41 ?_
    obtain ⟨q44, eq44, h⟩ := px_b h
    refine xw_callVI (w' := w4 E o q u ad bd x q24 z) (u := (w4 E o q u ad bd x q24 z).take 1) (v := (w4 E o q u ad bd x q24 z).drop 7) C (ok_X3_keysHeld (o := q) (ad := ad) (x := q24) eq44) 0 gX4_takeIn_X3_keysHeld rfl ⟨rfl, rfl⟩ (by decide +kernel) ⟨Nat.le_of_ble_eq_true rfl, Nat.le_of_ble_eq_true rfl⟩ 0 3 rfl rfl rfl (Nat.le_of_ble_eq_true rfl) ⟨Nat.zero_le _, Nat.zero_le _⟩ rfl rfl (by rfl) dX4_takeIn_44 ?_
    refine xw_max C (by decide +kernel) (by decide +kernel) (by decide +kernel) (by decide +kernel) (Nat.le_of_ble_eq_true rfl) (Nat.le_of_ble_eq_true rfl) ⟨Nat.zero_le _, Nat.zero_le _⟩ dX4_takeIn_47 ?_
    refine px_n h (fun x_50 ex_50 h => ?_)
    refine xw_put (w' := w4 E o q u ad bd x_50 q24 z) C in4 tyX4 tyX4_ok nmX4 0 rfl rfl 4 (by decide) m32 rfl rfl rfl (Nat.le_of_ble_eq_true rfl) (by rw [ex_50]; rfl) dX4_takeIn_50 ?_
    refine xw_aload_n C dX4_takeIn_53 rfl 2 rfl ?_
    refine xw_get C in4 0 rfl rfl 1 (by decide) m18 rfl rfl dX4_takeIn_54 ?_
    refine xw_iload_n C dX4_takeIn_57 rfl 3 rfl ?_
    obtain ⟨q58, eq58, h⟩ := px_b h
    refine xw_callVI (w' := w4 E o q u ad bd x_50 q24 z) (u := (w4 E o q u ad bd x_50 q24 z).take 1) (v := (w4 E o q u ad bd x_50 q24 z).drop 7) C (ok_X3_depthOf (o := q) (ad := ad) (x := q24) eq58) 1 gX4_takeIn_X3_depthOf rfl ⟨rfl, rfl⟩ (by decide +kernel) ⟨Nat.le_of_ble_eq_true rfl, Nat.le_of_ble_eq_true rfl⟩ 0 3 rfl rfl rfl (Nat.le_of_ble_eq_true rfl) ⟨Nat.zero_le _, Nat.zero_le _⟩ rfl rfl (by rfl) dX4_takeIn_58 ?_
    refine xw_aload_n C dX4_takeIn_61 rfl 2 rfl ?_
    refine xw_get C in4 0 rfl rfl 1 (by decide) m18 rfl rfl dX4_takeIn_62 ?_
    obtain ⟨q65, eq65, h⟩ := px_b h
    refine xw_callVI (w' := w4 E o q u ad bd x_50 q24 z) (u := (w4 E o q u ad bd x_50 q24 z).take 1) (v := (w4 E o q u ad bd x_50 q24 z).drop 7) C (ok_X3_keysHeld (o := q) (ad := ad) (x := q24) eq65) 0 gX4_takeIn_X3_keysHeld rfl ⟨rfl, rfl⟩ (by decide +kernel) ⟨Nat.le_of_ble_eq_true rfl, Nat.le_of_ble_eq_true rfl⟩ 0 3 rfl rfl rfl (Nat.le_of_ble_eq_true rfl) ⟨Nat.zero_le _, Nat.zero_le _⟩ rfl rfl (by rfl) dX4_takeIn_65 ?_
    obtain ⟨q68, eq68, h⟩ := px_b h
    refine xw_callSI (w' := w4 E o q u ad bd x_50 q24 z) (u := []) (v := w4 E o q u ad bd x_50 q24 z) C (ok_X4_isTooDeep  eq68) 2 gX4_takeIn_X4_isTooDeep rfl ⟨rfl, rfl⟩ (by decide +kernel) ⟨Nat.le_of_ble_eq_true rfl, Nat.le_of_ble_eq_true rfl⟩ rfl (Nat.le_of_ble_eq_true rfl) ⟨Nat.zero_le _, Nat.zero_le _⟩ rfl rfl rfl dX4_takeIn_68 ?_
    refine xw_if_eq C 107 dX4_takeIn_71 (by decide) (fun c71 => ?_) (fun c71 => ?_)
    · have h := px_t c71 h
      refine xw_iload_n C dX4_takeIn_107 rfl 0 rfl ?_
      cases h
      rw [hZ]
      exact xw_iret C hr dX4_takeIn_108
    · have h := px_f c71 h
      refine xw_aload_n C dX4_takeIn_74 rfl 2 rfl ?_
      refine xw_aload_n C dX4_takeIn_75 rfl 2 rfl ?_
      refine xw_iload_n C dX4_takeIn_76 rfl 3 rfl ?_
      obtain ⟨q77, eq77, h⟩ := px_b h
      refine xw_callVI (w' := w4 E o q u ad bd x_50 q24 z) (u := []) (v := []) C (ok_X4_lopsidedAbove (o := o) (q := q) (u := u) (ad := ad) (bd := bd) (x := x_50) (y := q24) (z := z) eq77) 1 gX4_takeIn_X4_lopsidedAbove rfl ⟨rfl, rfl⟩ (by decide +kernel) ⟨Nat.le_of_ble_eq_true rfl, Nat.le_of_ble_eq_true rfl⟩ 0 4 rfl rfl rfl (Nat.le_of_ble_eq_true rfl) ⟨Nat.zero_le _, Nat.zero_le _⟩ rfl xe0 xe0.symm dX4_takeIn_77 ?_
      obtain ⟨q80, eq80, h⟩ := px_b h
      refine xw_callVV (w' := w4 E o q u ad bd q80.1 q80.2 z) (u := []) (v := []) C (ok_X4_evenOut (o := o) (q := q) (u := u) (ad := ad) (bd := bd) (x := x_50) (y := q24) (z := z) eq80) 1 gX4_takeIn_X4_evenOut rfl ⟨rfl, rfl⟩ (by decide +kernel) ⟨Nat.le_of_ble_eq_true rfl, Nat.le_of_ble_eq_true rfl⟩ 0 4 rfl rfl rfl (Nat.le_of_ble_eq_true rfl) ⟨Nat.zero_le _, Nat.zero_le _⟩ rfl xe0 xe0.symm dX4_takeIn_80 ?_
      refine xw_goto C 107 dX4_takeIn_83 (by decide) ?_
      refine xw_iload_n C dX4_takeIn_107 rfl 0 rfl ?_
      cases h
      rw [hZ]
      exact xw_iret C hr dX4_takeIn_108
def fX4_seek (p1 : Int32) (x : Ob) (y : Ob) (z : Ob) : Option (Int32 × Ob × Ob × Ob) :=
  Option.bind (fX3_lastOnWay p1 y) (fun q5 =>
  Option.bind (fX3_depthOf q5 y) (fun q14 =>
  px_let (ob_i x 3 ((x.1 3) + q14)) (fun x_25 =>
  Option.bind (fX2_write p1 z) (fun q33 =>
  Option.bind (fX4_act q5 x_25 y) (fun q38 =>
  (if q5 = p1 then
    some (q14, x_25, q38, q33)
  else
    some ((-q14), x_25, q38, q33)))))))
abbrev rmX4_seek : Room := { frames := 5, cells := 0, slots := 0, locals := 112 }
set_option maxHeartbeats 4000000 in
set_option maxRecDepth 100000 in
theorem ok_X4_seek {l : Launch} {E : En} {o : Nat} {q : Nat} {u : Nat} {ad : (Nat → Nat)} {bd : (Nat → Nat)} {p1 : Int32} {x : Ob} {y : Ob} {z : Ob} {r : Int32 × Ob × Ob × Ob} (hf : fX4_seek p1 x y z = some r) : CI l yX4_seek wsX4_seek (rmX4_seek) [.ref o, .int p1] E (w4 E o q u ad bd x y z) (w4 E o q u ad bd r.2.1 r.2.2.1 r.2.2.2) (r.1) := by
  refine xc_I (by decide) rfl (Nat.le_of_ble_eq_true rfl) [(0, .ref o), (1, .int p1)] rfl (fun p e s m below meth c A C hr => ?_)
  generalize ([.ref o, .int p1] : List Value).toArray = args at C ⊢
  obtain ⟨Z, hZ⟩ : ∃ Z, Z = ZI E (w4 E o q u ad bd r.2.1 r.2.2.1 r.2.2.2) (r.1) A below args s 0 0 := ⟨_, rfl⟩
  rw [← hZ]
  have in4 : ∀ w ∈ wsX40, w ∈ wsX4_seek := by decide +kernel
  have m18 : Cond.fieldLink RX4 18 "TurningTrees$Tree" "shape" "LTurningTrees$Shape;" ∈ wsX4_seek := by decide +kernel
  have m25 : Cond.fieldLink RX4 25 "TurningTrees$Tree" "row" "LTurningTrees$Row;" ∈ wsX4_seek := by decide +kernel
  have m29 : Cond.fieldLink RX4 29 "TurningTrees$Tree" "costs" "I" ∈ wsX4_seek := by decide +kernel
  rw [fX4_seek] at hf
  have h := hf
  refine xw_aload_n C dX4_seek_0 rfl 0 rfl ?_
  refine xw_get C in4 0 rfl rfl 1 (by decide) m18 rfl rfl dX4_seek_1 ?_
  refine xw_iload_n C dX4_seek_4 rfl 1 rfl ?_
  obtain ⟨q5, eq5, h⟩ := px_b h
  refine xw_callVI (w' := w4 E o q u ad bd x y z) (u := (w4 E o q u ad bd x y z).take 1) (v := (w4 E o q u ad bd x y z).drop 7) C (ok_X3_lastOnWay (o := q) (ad := ad) (x := y) eq5) 1 gX4_seek_X3_lastOnWay rfl ⟨rfl, rfl⟩ (by decide +kernel) ⟨Nat.le_of_ble_eq_true rfl, Nat.le_of_ble_eq_true rfl⟩ 0 3 rfl rfl rfl (Nat.le_of_ble_eq_true rfl) ⟨Nat.zero_le _, Nat.zero_le _⟩ rfl rfl (by rfl) dX4_seek_5 ?_
  refine xw_istore_n C dX4_seek_8 rfl (by decide) (lv' := [(2, .int q5), (0, .ref o), (1, .int p1)]) rfl ?_
  refine xw_aload_n C dX4_seek_9 rfl 1 rfl ?_
  refine xw_get C in4 0 rfl rfl 1 (by decide) m18 rfl rfl dX4_seek_10 ?_
  refine xw_iload_n C dX4_seek_13 rfl 0 rfl ?_
  obtain ⟨q14, eq14, h⟩ := px_b h
  refine xw_callVI (w' := w4 E o q u ad bd x y z) (u := (w4 E o q u ad bd x y z).take 1) (v := (w4 E o q u ad bd x y z).drop 7) C (ok_X3_depthOf (o := q) (ad := ad) (x := y) eq14) 1 gX4_seek_X3_depthOf rfl ⟨rfl, rfl⟩ (by decide +kernel) ⟨Nat.le_of_ble_eq_true rfl, Nat.le_of_ble_eq_true rfl⟩ 0 3 rfl rfl rfl (Nat.le_of_ble_eq_true rfl) ⟨Nat.zero_le _, Nat.zero_le _⟩ rfl rfl (by rfl) dX4_seek_14 ?_
  refine xw_istore_n C dX4_seek_17 rfl (by decide) (lv' := [(3, .int q14), (2, .int q5), (0, .ref o), (1, .int p1)]) rfl ?_
  refine xw_aload_n C dX4_seek_18 rfl 2 rfl ?_
  refine xw_dup C dX4_seek_19 rfl ?_
  refine xw_get C in4 0 rfl rfl 3 (by decide) m29 rfl rfl dX4_seek_20 ?_
  refine xw_iload_n C dX4_seek_23 rfl 0 rfl ?_
  refine xw_iadd C dX4_seek_24 ?_
  refine px_n h (fun x_25 ex_25 h => ?_)
  refine xw_put (w' := w4 E o q u ad bd x_25 y z) C in4 tyX4 tyX4_ok nmX4 0 rfl rfl 3 (by decide) m29 rfl rfl rfl (Nat.le_of_ble_eq_true rfl) (by rw [ex_25]; rfl) dX4_seek_25 ?_
  refine xw_aload_n C dX4_seek_28 rfl 2 rfl ?_
  refine xw_get C in4 0 rfl rfl 2 (by decide) m25 rfl rfl dX4_seek_29 ?_
  refine xw_iload_n C dX4_seek_32 rfl 3 rfl ?_
  obtain ⟨q33, eq33, h⟩ := px_b h
  refine xw_callVV (w' := w4 E o q u ad bd x_25 y q33) (u := (w4 E o q u ad bd x_25 y z).take 7) (v := (w4 E o q u ad bd x_25 y z).drop 9) C (ok_X2_write (o := u) (ad := bd) (x := z) eq33) 1 gX4_seek_X2_write rfl ⟨rfl, rfl⟩ (by decide +kernel) ⟨Nat.le_of_ble_eq_true rfl, Nat.le_of_ble_eq_true rfl⟩ 0 2 rfl rfl rfl (Nat.le_of_ble_eq_true rfl) ⟨Nat.zero_le _, Nat.zero_le _⟩ rfl rfl (by rfl) dX4_seek_33 ?_
  refine xw_aload_n C dX4_seek_36 rfl 2 rfl ?_
  refine xw_iload_n C dX4_seek_37 rfl 1 rfl ?_
  obtain ⟨q38, eq38, h⟩ := px_b h
  refine xw_callVV (w' := w4 E o q u ad bd x_25 q38 q33) (u := []) (v := []) C (ok_X4_act (o := o) (q := q) (u := u) (ad := ad) (bd := bd) (x := x_25) (y := y) (z := q33) eq38) 1 gX4_seek_X4_act rfl ⟨rfl, rfl⟩ (by decide +kernel) ⟨Nat.le_of_ble_eq_true rfl, Nat.le_of_ble_eq_true rfl⟩ 0 4 rfl rfl rfl (Nat.le_of_ble_eq_true rfl) ⟨Nat.zero_le _, Nat.zero_le _⟩ rfl xe0 xe0.symm dX4_seek_38 ?_
  refine xw_iload_n C dX4_seek_41 rfl 1 rfl ?_
  refine xw_iload_n C dX4_seek_42 rfl 3 rfl ?_
  refine xw_icmp_ne C 50 dX4_seek_43 (by decide) (fun c43 => ?_) (fun c43 => ?_)
  · have h := px_f c43 h
    refine xw_iload_n C dX4_seek_50 rfl 0 rfl ?_
    refine xw_ineg C dX4_seek_51 ?_
    cases h
    rw [hZ]
    exact xw_iret C hr dX4_seek_52
  · have h := px_t c43 h
    refine xw_iload_n C dX4_seek_46 rfl 0 rfl ?_
    refine xw_goto C 52 dX4_seek_47 (by decide) ?_
    cases h
    rw [hZ]
    exact xw_iret C hr dX4_seek_52
def fX4_childToTurn (p1 : Int32) (x : Ob) (y : Ob) : Option (Int32) :=
  Option.bind (fX3_leftOf p1 y) (fun q5 =>
  Option.bind (fX3_rightOf p1 y) (fun q14 =>
  (if q14 = (-1) then
    some q5
  else
    (if q5 = (-1) then
      some q14
    else
      (if (x.1 0) = (5) then
        Option.bind (fX5_weight q5) (fun q41 =>
        Option.bind (fX5_weight q14) (fun q45 =>
        (if q41 ≤ q45 then
          some q14
        else
          some q5)))
      else
        Option.bind (fX3_sizeOf q5 y) (fun q62 =>
        Option.bind (fX3_sizeOf q14 y) (fun q70 =>
        (if q62 < q70 then
          some q14
        else
          some q5))))))))
abbrev rmX4_childToTurn : Room := { frames := 2, cells := 0, slots := 0, locals := 42 }
set_option maxHeartbeats 4000000 in
set_option maxRecDepth 100000 in
theorem ok_X4_childToTurn {l : Launch} {E : En} {o : Nat} {q : Nat} {u : Nat} {ad : (Nat → Nat)} {bd : (Nat → Nat)} {p1 : Int32} {x : Ob} {y : Ob} {z : Ob} {r : Int32} (hf : fX4_childToTurn p1 x y = some r) : CI l yX4_childToTurn wsX4_childToTurn (rmX4_childToTurn) [.ref o, .int p1] E (w4 E o q u ad bd x y z) (w4 E o q u ad bd x y z) (r) := by
  refine xc_I (by decide) rfl (Nat.le_of_ble_eq_true rfl) [(0, .ref o), (1, .int p1)] rfl (fun p e s m below meth c A C hr => ?_)
  generalize ([.ref o, .int p1] : List Value).toArray = args at C ⊢
  obtain ⟨Z, hZ⟩ : ∃ Z, Z = ZI E (w4 E o q u ad bd x y z) (r) A below args s 0 0 := ⟨_, rfl⟩
  rw [← hZ]
  have in4 : ∀ w ∈ wsX40, w ∈ wsX4_childToTurn := by decide +kernel
  have m9 : Cond.fieldLink RX4 9 "TurningTrees$Tree" "kind" "I" ∈ wsX4_childToTurn := by decide +kernel
  have m18 : Cond.fieldLink RX4 18 "TurningTrees$Tree" "shape" "LTurningTrees$Shape;" ∈ wsX4_childToTurn := by decide +kernel
  rw [fX4_childToTurn] at hf
  have h := hf
  refine xw_aload_n C dX4_childToTurn_0 rfl 0 rfl ?_
  refine xw_get C in4 0 rfl rfl 1 (by decide) m18 rfl rfl dX4_childToTurn_1 ?_
  refine xw_iload_n C dX4_childToTurn_4 rfl 1 rfl ?_
  obtain ⟨q5, eq5, h⟩ := px_b h
  refine xw_callVI (w' := w4 E o q u ad bd x y z) (u := (w4 E o q u ad bd x y z).take 1) (v := (w4 E o q u ad bd x y z).drop 7) C (ok_X3_leftOf (o := q) (ad := ad) (x := y) eq5) 1 gX4_childToTurn_X3_leftOf rfl ⟨rfl, rfl⟩ (by decide +kernel) ⟨Nat.le_of_ble_eq_true rfl, Nat.le_of_ble_eq_true rfl⟩ 0 3 rfl rfl rfl (Nat.le_of_ble_eq_true rfl) ⟨Nat.zero_le _, Nat.zero_le _⟩ rfl rfl (by rfl) dX4_childToTurn_5 ?_
  refine xw_istore_n C dX4_childToTurn_8 rfl (by decide) (lv' := [(2, .int q5), (0, .ref o), (1, .int p1)]) rfl ?_
  refine xw_aload_n C dX4_childToTurn_9 rfl 1 rfl ?_
  refine xw_get C in4 0 rfl rfl 1 (by decide) m18 rfl rfl dX4_childToTurn_10 ?_
  refine xw_iload_n C dX4_childToTurn_13 rfl 2 rfl ?_
  obtain ⟨q14, eq14, h⟩ := px_b h
  refine xw_callVI (w' := w4 E o q u ad bd x y z) (u := (w4 E o q u ad bd x y z).take 1) (v := (w4 E o q u ad bd x y z).drop 7) C (ok_X3_rightOf (o := q) (ad := ad) (x := y) eq14) 1 gX4_childToTurn_X3_rightOf rfl ⟨rfl, rfl⟩ (by decide +kernel) ⟨Nat.le_of_ble_eq_true rfl, Nat.le_of_ble_eq_true rfl⟩ 0 3 rfl rfl rfl (Nat.le_of_ble_eq_true rfl) ⟨Nat.zero_le _, Nat.zero_le _⟩ rfl rfl (by rfl) dX4_childToTurn_14 ?_
  refine xw_istore_n C dX4_childToTurn_17 rfl (by decide) (lv' := [(3, .int q14), (2, .int q5), (0, .ref o), (1, .int p1)]) rfl ?_
  refine xw_iload_n C dX4_childToTurn_18 rfl 0 rfl ?_
  refine xw_iconst C (-1) dX4_childToTurn_19 (by decide) ?_
  refine xw_icmp_ne C 25 dX4_childToTurn_20 (by decide) (fun c20 => ?_) (fun c20 => ?_)
  · have h := px_f c20 h
    refine xw_iload_n C dX4_childToTurn_25 rfl 1 rfl ?_
    refine xw_iconst C (-1) dX4_childToTurn_26 (by decide) ?_
    refine xw_icmp_ne C 32 dX4_childToTurn_27 (by decide) (fun c27 => ?_) (fun c27 => ?_)
    · have h := px_f c27 h
      refine xw_aload_n C dX4_childToTurn_32 rfl 2 rfl ?_
      refine xw_get C in4 0 rfl rfl 0 (by decide) m9 rfl rfl dX4_childToTurn_33 ?_
      refine xw_iconst C (5) dX4_childToTurn_36 (by decide) ?_
      refine xw_icmp_ne C 57 dX4_childToTurn_37 (by decide) (fun c37 => ?_) (fun c37 => ?_)
      · have h := px_f c37 h
        refine xw_aload_n C dX4_childToTurn_57 rfl 2 rfl ?_
        refine xw_get C in4 0 rfl rfl 1 (by decide) m18 rfl rfl dX4_childToTurn_58 ?_
        refine xw_iload_n C dX4_childToTurn_61 rfl 1 rfl ?_
        obtain ⟨q62, eq62, h⟩ := px_b h
        refine xw_callVI (w' := w4 E o q u ad bd x y z) (u := (w4 E o q u ad bd x y z).take 1) (v := (w4 E o q u ad bd x y z).drop 7) C (ok_X3_sizeOf (o := q) (ad := ad) (x := y) eq62) 1 gX4_childToTurn_X3_sizeOf rfl ⟨rfl, rfl⟩ (by decide +kernel) ⟨Nat.le_of_ble_eq_true rfl, Nat.le_of_ble_eq_true rfl⟩ 0 3 rfl rfl rfl (Nat.le_of_ble_eq_true rfl) ⟨Nat.zero_le _, Nat.zero_le _⟩ rfl rfl (by rfl) dX4_childToTurn_62 ?_
        refine xw_aload_n C dX4_childToTurn_65 rfl 2 rfl ?_
        refine xw_get C in4 0 rfl rfl 1 (by decide) m18 rfl rfl dX4_childToTurn_66 ?_
        refine xw_iload_n C dX4_childToTurn_69 rfl 0 rfl ?_
        obtain ⟨q70, eq70, h⟩ := px_b h
        refine xw_callVI (w' := w4 E o q u ad bd x y z) (u := (w4 E o q u ad bd x y z).take 1) (v := (w4 E o q u ad bd x y z).drop 7) C (ok_X3_sizeOf (o := q) (ad := ad) (x := y) eq70) 1 gX4_childToTurn_X3_sizeOf rfl ⟨rfl, rfl⟩ (by decide +kernel) ⟨Nat.le_of_ble_eq_true rfl, Nat.le_of_ble_eq_true rfl⟩ 0 3 rfl rfl rfl (Nat.le_of_ble_eq_true rfl) ⟨Nat.zero_le _, Nat.zero_le _⟩ rfl rfl (by rfl) dX4_childToTurn_70 ?_
        refine xw_icmp_lt C 80 dX4_childToTurn_73 (by decide) (fun c73 => ?_) (fun c73 => ?_)
        · have h := px_t c73 h
          refine xw_iload_n C dX4_childToTurn_80 rfl 0 rfl ?_
          cases h
          rw [hZ]
          exact xw_iret C hr dX4_childToTurn_81
        · have h := px_f c73 h
          refine xw_iload_n C dX4_childToTurn_76 rfl 1 rfl ?_
          refine xw_goto C 81 dX4_childToTurn_77 (by decide) ?_
          cases h
          rw [hZ]
          exact xw_iret C hr dX4_childToTurn_81
      · have h := px_t c37 h
        refine xw_iload_n C dX4_childToTurn_40 rfl 1 rfl ?_
        obtain ⟨q41, eq41, h⟩ := px_b h
        refine xw_callNI (w' := w4 E o q u ad bd x y z) (u := []) (v := w4 E o q u ad bd x y z) C (ok_X5_weight  eq41) 1 gX4_childToTurn_X5_weight_n113 rfl ⟨rfl, rfl⟩ (by decide +kernel) (by decide +kernel) (by decide +kernel) (by decide +kernel) ⟨Nat.le_of_ble_eq_true rfl, Nat.le_of_ble_eq_true rfl⟩ rfl (Nat.le_of_ble_eq_true rfl) ⟨Nat.zero_le _, Nat.zero_le _⟩ rfl rfl rfl dX4_childToTurn_41 ?_
        refine xw_iload_n C dX4_childToTurn_44 rfl 0 rfl ?_
        obtain ⟨q45, eq45, h⟩ := px_b h
        refine xw_callNI (w' := w4 E o q u ad bd x y z) (u := []) (v := w4 E o q u ad bd x y z) C (ok_X5_weight  eq45) 1 gX4_childToTurn_X5_weight_n113 rfl ⟨rfl, rfl⟩ (by decide +kernel) (by decide +kernel) (by decide +kernel) (by decide +kernel) ⟨Nat.le_of_ble_eq_true rfl, Nat.le_of_ble_eq_true rfl⟩ rfl (Nat.le_of_ble_eq_true rfl) ⟨Nat.zero_le _, Nat.zero_le _⟩ rfl rfl rfl dX4_childToTurn_45 ?_
        refine xw_icmp_le C 55 dX4_childToTurn_48 (by decide) (fun c48 => ?_) (fun c48 => ?_)
        · have h := px_t c48 h
          refine xw_iload_n C dX4_childToTurn_55 rfl 0 rfl ?_
          cases h
          rw [hZ]
          exact xw_iret C hr dX4_childToTurn_56
        · have h := px_f c48 h
          refine xw_iload_n C dX4_childToTurn_51 rfl 1 rfl ?_
          refine xw_goto C 56 dX4_childToTurn_52 (by decide) ?_
          cases h
          rw [hZ]
          exact xw_iret C hr dX4_childToTurn_56
    · have h := px_t c27 h
      refine xw_iload_n C dX4_childToTurn_30 rfl 0 rfl ?_
      cases h
      rw [hZ]
      exact xw_iret C hr dX4_childToTurn_31
  · have h := px_t c20 h
    refine xw_iload_n C dX4_childToTurn_23 rfl 1 rfl ?_
    cases h
    rw [hZ]
    exact xw_iret C hr dX4_childToTurn_24
def fX4_sink_L2 : Nat → Int32 → Int32 → Ob → Ob → Option (Ob)
  | 0, _, _, _, _ => none
  | n + 1, v1, v2, x, y =>
  (if (64) ≤ v2 then
    some y
  else
    Option.bind (fX3_sizeOf v1 y) (fun q13 =>
    (if q13 ≤ (1) then
      some y
    else
      Option.bind (fX4_childToTurn v1 x y) (fun q26 =>
      Option.bind (fX3_turn q26 y) (fun q29 =>
      px_let (v2 + (1) : Int32) (fun b32 =>
      fX4_sink_L2 n v1 b32 x q29))))))
def fX4_sink (p1 : Int32) (x : Ob) (y : Ob) : Option (Ob) :=
  fX4_sink_L2 FU p1 (0) x y
abbrev rmX4_sink : Room := { frames := 3, cells := 0, slots := 0, locals := 67 }
set_option maxHeartbeats 4000000 in
set_option maxRecDepth 100000 in
theorem ok_X4_sink {l : Launch} {E : En} {o : Nat} {q : Nat} {u : Nat} {ad : (Nat → Nat)} {bd : (Nat → Nat)} {p1 : Int32} {x : Ob} {y : Ob} {z : Ob} {r : Ob} (hf : fX4_sink p1 x y = some r) : CV l yX4_sink wsX4_sink (rmX4_sink) [.ref o, .int p1] E (w4 E o q u ad bd x y z) (w4 E o q u ad bd x r z) := by
  refine xc_V (by decide) rfl (Nat.le_of_ble_eq_true rfl) [(0, .ref o), (1, .int p1)] rfl (fun p e s m below meth c A C hr => ?_)
  generalize ([.ref o, .int p1] : List Value).toArray = args at C ⊢
  obtain ⟨Z, hZ⟩ : ∃ Z, Z = ZV E (w4 E o q u ad bd x r z) A below args s 0 0 := ⟨_, rfl⟩
  rw [← hZ]
  have in4 : ∀ w ∈ wsX40, w ∈ wsX4_sink := by decide +kernel
  have m18 : Cond.fieldLink RX4 18 "TurningTrees$Tree" "shape" "LTurningTrees$Shape;" ∈ wsX4_sink := by decide +kernel
  have hL2 : ∀ n : Nat, ∀ (v1 : Int32), ∀ (v2 : Int32), ∀ (y : Ob), fX4_sink_L2 n v1 v2 x y = some r → XW E p l e rmX4_sink s m args below meth c Z A 0 0 (w4 E o q u ad bd x y z) 2 3 [(0, .ref o), (1, .int v1), (2, .int v2)] [] := by
    intro n
    induction n with
    | zero =>
      intro v1 v2 y h
      rw [fX4_sink_L2] at h
      cases h
    | succ n ih =>
      intro v1 v2 y h
      rw [fX4_sink_L2] at h
      refine xw_iload_n C dX4_sink_2 rfl 2 rfl ?_
      refine xw_bipush C (64) dX4_sink_3 (by decide) ?_
      refine xw_icmp_ge C 38 dX4_sink_5 (by decide) (fun c5 => ?_) (fun c5 => ?_)
      · have h := px_t c5 h
        cases h
        rw [hZ]
        exact xw_vret C hr dX4_sink_38
      · have h := px_f c5 h
        refine xw_aload_n C dX4_sink_8 rfl 0 rfl ?_
        refine xw_get C in4 0 rfl rfl 1 (by decide) m18 rfl rfl dX4_sink_9 ?_
        refine xw_iload_n C dX4_sink_12 rfl 1 rfl ?_
        obtain ⟨q13, eq13, h⟩ := px_b h
        refine xw_callVI (w' := w4 E o q u ad bd x y z) (u := (w4 E o q u ad bd x y z).take 1) (v := (w4 E o q u ad bd x y z).drop 7) C (ok_X3_sizeOf (o := q) (ad := ad) (x := y) eq13) 1 gX4_sink_X3_sizeOf rfl ⟨rfl, rfl⟩ (by decide +kernel) ⟨Nat.le_of_ble_eq_true rfl, Nat.le_of_ble_eq_true rfl⟩ 0 3 rfl rfl rfl (Nat.le_of_ble_eq_true rfl) ⟨Nat.zero_le _, Nat.zero_le _⟩ rfl rfl (by rfl) dX4_sink_13 ?_
        refine xw_iconst C (1) dX4_sink_16 (by decide) ?_
        refine xw_icmp_le C 38 dX4_sink_17 (by decide) (fun c17 => ?_) (fun c17 => ?_)
        · have h := px_t c17 h
          cases h
          rw [hZ]
          exact xw_vret C hr dX4_sink_38
        · have h := px_f c17 h
          refine xw_aload_n C dX4_sink_20 rfl 0 rfl ?_
          refine xw_get C in4 0 rfl rfl 1 (by decide) m18 rfl rfl dX4_sink_21 ?_
          refine xw_aload_n C dX4_sink_24 rfl 0 rfl ?_
          refine xw_iload_n C dX4_sink_25 rfl 1 rfl ?_
          obtain ⟨q26, eq26, h⟩ := px_b h
          refine xw_callVI (w' := w4 E o q u ad bd x y z) (u := []) (v := []) C (ok_X4_childToTurn (o := o) (q := q) (u := u) (ad := ad) (bd := bd) (x := x) (y := y) (z := z) eq26) 1 gX4_sink_X4_childToTurn rfl ⟨rfl, rfl⟩ (by decide +kernel) ⟨Nat.le_of_ble_eq_true rfl, Nat.le_of_ble_eq_true rfl⟩ 0 4 rfl rfl rfl (Nat.le_of_ble_eq_true rfl) ⟨Nat.zero_le _, Nat.zero_le _⟩ rfl xe0 xe0.symm dX4_sink_26 ?_
          obtain ⟨q29, eq29, h⟩ := px_b h
          refine xw_callVV (w' := w4 E o q u ad bd x q29 z) (u := (w4 E o q u ad bd x y z).take 1) (v := (w4 E o q u ad bd x y z).drop 7) C (ok_X3_turn (o := q) (ad := ad) (x := y) eq29) 1 gX4_sink_X3_turn rfl ⟨rfl, rfl⟩ (by decide +kernel) ⟨Nat.le_of_ble_eq_true rfl, Nat.le_of_ble_eq_true rfl⟩ 0 3 rfl rfl rfl (Nat.le_of_ble_eq_true rfl) ⟨Nat.zero_le _, Nat.zero_le _⟩ rfl rfl (by rfl) dX4_sink_29 ?_
          refine px_n h (fun b32 eb32 h => ?_)
          refine xw_iinc (v := b32) C dX4_sink_32 2 rfl eb32 (by decide) (lv' := [(2, .int b32), (0, .ref o), (1, .int v1)]) rfl ?_
          refine xw_goto C 2 dX4_sink_35 (by decide) ?_
          refine xw_perm [1, 2, 0] rfl ?_
          exact ih _ _ _ h
  rw [fX4_sink] at hf
  have h := hf
  refine xw_iconst C (0) dX4_sink_0 (by decide) ?_
  refine xw_istore_n C dX4_sink_1 rfl (by decide) (lv' := [(2, .int (0)), (0, .ref o), (1, .int p1)]) rfl ?_
  refine xw_perm [1, 2, 0] rfl ?_
  exact hL2 _ _ _ _ h
def fX4_giveUp (p1 : Int32) (x : Ob) (y : Ob) : Option (Int32 × Ob × Ob) :=
  Option.bind (fX3_lastOnWay p1 y) (fun q5 =>
  Option.bind (fX3_depthOf q5 y) (fun q14 =>
  (if q5 = p1 then
    Option.bind (fX4_sink p1 x y) (fun q33 =>
    Option.bind (fX3_upOf p1 q33) (fun q41 =>
    Option.bind (fX3_takeOff p1 q33) (fun q51 =>
    Option.bind (fX4_act q41 x q51) (fun q57 =>
    (if (x.1 0) = (4) then
      Option.bind (fX3_keysHeld q57) (fun q73 =>
      (if ((2) * (x.1 4)) ≤ ((3) * q73) then
        some (q14, x, q57)
      else
        Option.bind (fX4_evenOut (q57.1 5) x q57) (fun q94 =>
        some (q14, q94.1, q94.2))))
    else
      some (q14, x, q57))))))
  else
    Option.bind (fX4_act q5 x y) (fun q25 =>
    some ((-q14), x, q25)))))
abbrev rmX4_giveUp : Room := { frames := 75, cells := 0, slots := 0, locals := 1867 }
set_option maxHeartbeats 4000000 in
set_option maxRecDepth 100000 in
theorem ok_X4_giveUp {l : Launch} {E : En} {o : Nat} {q : Nat} {u : Nat} {ad : (Nat → Nat)} {bd : (Nat → Nat)} {p1 : Int32} {x : Ob} {y : Ob} {z : Ob} {r : Int32 × Ob × Ob} (hf : fX4_giveUp p1 x y = some r) : CI l yX4_giveUp wsX4_giveUp (rmX4_giveUp) [.ref o, .int p1] E (w4 E o q u ad bd x y z) (w4 E o q u ad bd r.2.1 r.2.2 z) (r.1) := by
  refine xc_I (by decide) rfl (Nat.le_of_ble_eq_true rfl) [(0, .ref o), (1, .int p1)] rfl (fun p e s m below meth c A C hr => ?_)
  generalize ([.ref o, .int p1] : List Value).toArray = args at C ⊢
  obtain ⟨Z, hZ⟩ : ∃ Z, Z = ZI E (w4 E o q u ad bd r.2.1 r.2.2 z) (r.1) A below args s 0 0 := ⟨_, rfl⟩
  rw [← hZ]
  have in3 : ∀ w ∈ wsX30, w ∈ wsX4_giveUp := by decide +kernel
  have in4 : ∀ w ∈ wsX40, w ∈ wsX4_giveUp := by decide +kernel
  have m9 : Cond.fieldLink RX4 9 "TurningTrees$Tree" "kind" "I" ∈ wsX4_giveUp := by decide +kernel
  have m18 : Cond.fieldLink RX4 18 "TurningTrees$Tree" "shape" "LTurningTrees$Shape;" ∈ wsX4_giveUp := by decide +kernel
  have m32 : Cond.fieldLink RX4 32 "TurningTrees$Tree" "most" "I" ∈ wsX4_giveUp := by decide +kernel
  have m85 : Cond.fieldLink RX4 85 "TurningTrees$Shape" "root" "I" ∈ wsX4_giveUp := by decide +kernel
  rw [fX4_giveUp] at hf
  have h := hf
  refine xw_aload_n C dX4_giveUp_0 rfl 0 rfl ?_
  refine xw_get C in4 0 rfl rfl 1 (by decide) m18 rfl rfl dX4_giveUp_1 ?_
  refine xw_iload_n C dX4_giveUp_4 rfl 1 rfl ?_
  obtain ⟨q5, eq5, h⟩ := px_b h
  refine xw_callVI (w' := w4 E o q u ad bd x y z) (u := (w4 E o q u ad bd x y z).take 1) (v := (w4 E o q u ad bd x y z).drop 7) C (ok_X3_lastOnWay (o := q) (ad := ad) (x := y) eq5) 1 gX4_giveUp_X3_lastOnWay rfl ⟨rfl, rfl⟩ (by decide +kernel) ⟨Nat.le_of_ble_eq_true rfl, Nat.le_of_ble_eq_true rfl⟩ 0 3 rfl rfl rfl (Nat.le_of_ble_eq_true rfl) ⟨Nat.zero_le _, Nat.zero_le _⟩ rfl rfl (by rfl) dX4_giveUp_5 ?_
  refine xw_istore_n C dX4_giveUp_8 rfl (by decide) (lv' := [(2, .int q5), (0, .ref o), (1, .int p1)]) rfl ?_
  refine xw_aload_n C dX4_giveUp_9 rfl 1 rfl ?_
  refine xw_get C in4 0 rfl rfl 1 (by decide) m18 rfl rfl dX4_giveUp_10 ?_
  refine xw_iload_n C dX4_giveUp_13 rfl 0 rfl ?_
  obtain ⟨q14, eq14, h⟩ := px_b h
  refine xw_callVI (w' := w4 E o q u ad bd x y z) (u := (w4 E o q u ad bd x y z).take 1) (v := (w4 E o q u ad bd x y z).drop 7) C (ok_X3_depthOf (o := q) (ad := ad) (x := y) eq14) 1 gX4_giveUp_X3_depthOf rfl ⟨rfl, rfl⟩ (by decide +kernel) ⟨Nat.le_of_ble_eq_true rfl, Nat.le_of_ble_eq_true rfl⟩ 0 3 rfl rfl rfl (Nat.le_of_ble_eq_true rfl) ⟨Nat.zero_le _, Nat.zero_le _⟩ rfl rfl (by rfl) dX4_giveUp_14 ?_
  refine xw_istore_n C dX4_giveUp_17 rfl (by decide) (lv' := [(3, .int q14), (2, .int q5), (0, .ref o), (1, .int p1)]) rfl ?_
  refine xw_iload_n C dX4_giveUp_18 rfl 1 rfl ?_
  refine xw_iload_n C dX4_giveUp_19 rfl 3 rfl ?_
  refine xw_icmp_eq C 31 dX4_giveUp_20 (by decide) (fun c20 => ?_) (fun c20 => ?_)
  · have h := px_t c20 h
    refine xw_aload_n C dX4_giveUp_31 rfl 2 rfl ?_
    refine xw_iload_n C dX4_giveUp_32 rfl 3 rfl ?_
    obtain ⟨q33, eq33, h⟩ := px_b h
    refine xw_callVV (w' := w4 E o q u ad bd x q33 z) (u := []) (v := []) C (ok_X4_sink (o := o) (q := q) (u := u) (ad := ad) (bd := bd) (x := x) (y := y) (z := z) eq33) 1 gX4_giveUp_X4_sink rfl ⟨rfl, rfl⟩ (by decide +kernel) ⟨Nat.le_of_ble_eq_true rfl, Nat.le_of_ble_eq_true rfl⟩ 0 4 rfl rfl rfl (Nat.le_of_ble_eq_true rfl) ⟨Nat.zero_le _, Nat.zero_le _⟩ rfl xe0 xe0.symm dX4_giveUp_33 ?_
    refine xw_aload_n C dX4_giveUp_36 rfl 2 rfl ?_
    refine xw_get C in4 0 rfl rfl 1 (by decide) m18 rfl rfl dX4_giveUp_37 ?_
    refine xw_iload_n C dX4_giveUp_40 rfl 3 rfl ?_
    obtain ⟨q41, eq41, h⟩ := px_b h
    refine xw_callVI (w' := w4 E o q u ad bd x q33 z) (u := (w4 E o q u ad bd x q33 z).take 1) (v := (w4 E o q u ad bd x q33 z).drop 7) C (ok_X3_upOf (o := q) (ad := ad) (x := q33) eq41) 1 gX4_giveUp_X3_upOf rfl ⟨rfl, rfl⟩ (by decide +kernel) ⟨Nat.le_of_ble_eq_true rfl, Nat.le_of_ble_eq_true rfl⟩ 0 3 rfl rfl rfl (Nat.le_of_ble_eq_true rfl) ⟨Nat.zero_le _, Nat.zero_le _⟩ rfl rfl (by rfl) dX4_giveUp_41 ?_
    refine xw_istore C dX4_giveUp_44 (by decide) (lv' := [(4, .int q41), (3, .int q14), (2, .int q5), (0, .ref o), (1, .int p1)]) rfl ?_
    refine xw_aload_n C dX4_giveUp_46 rfl 3 rfl ?_
    refine xw_get C in4 0 rfl rfl 1 (by decide) m18 rfl rfl dX4_giveUp_47 ?_
    refine xw_iload_n C dX4_giveUp_50 rfl 4 rfl ?_
    obtain ⟨q51, eq51, h⟩ := px_b h
    refine xw_callVV (w' := w4 E o q u ad bd x q51 z) (u := (w4 E o q u ad bd x q33 z).take 1) (v := (w4 E o q u ad bd x q33 z).drop 7) C (ok_X3_takeOff (o := q) (ad := ad) (x := q33) eq51) 1 gX4_giveUp_X3_takeOff rfl ⟨rfl, rfl⟩ (by decide +kernel) ⟨Nat.le_of_ble_eq_true rfl, Nat.le_of_ble_eq_true rfl⟩ 0 3 rfl rfl rfl (Nat.le_of_ble_eq_true rfl) ⟨Nat.zero_le _, Nat.zero_le _⟩ rfl rfl (by rfl) dX4_giveUp_51 ?_
    refine xw_aload_n C dX4_giveUp_54 rfl 3 rfl ?_
    refine xw_iload C dX4_giveUp_55 0 rfl ?_
    obtain ⟨q57, eq57, h⟩ := px_b h
    refine xw_callVV (w' := w4 E o q u ad bd x q57 z) (u := []) (v := []) C (ok_X4_act (o := o) (q := q) (u := u) (ad := ad) (bd := bd) (x := x) (y := q51) (z := z) eq57) 1 gX4_giveUp_X4_act rfl ⟨rfl, rfl⟩ (by decide +kernel) ⟨Nat.le_of_ble_eq_true rfl, Nat.le_of_ble_eq_true rfl⟩ 0 4 rfl rfl rfl (Nat.le_of_ble_eq_true rfl) ⟨Nat.zero_le _, Nat.zero_le _⟩ rfl xe0 xe0.symm dX4_giveUp_57 ?_
    refine xw_aload_n C dX4_giveUp_60 rfl 3 rfl ?_
    refine xw_get C in4 0 rfl rfl 0 (by decide) m9 rfl rfl dX4_giveUp_61 ?_
    refine xw_iconst C (4) dX4_giveUp_64 (by decide) ?_
    refine xw_icmp_ne C 97 dX4_giveUp_65 (by decide) (fun c65 => ?_) (fun c65 => ?_)
    · have h := px_f c65 h
      refine xw_iload_n C dX4_giveUp_97 rfl 1 rfl ?_
      cases h
      rw [hZ]
      exact xw_iret C hr dX4_giveUp_98
    · have h := px_t c65 h
      refine xw_iconst C (3) dX4_giveUp_68 (by decide) ?_
      refine xw_aload_n C dX4_giveUp_69 rfl 3 rfl ?_
      refine xw_get C in4 0 rfl rfl 1 (by decide) m18 rfl rfl dX4_giveUp_70 ?_
      obtain ⟨q73, eq73, h⟩ := px_b h
      refine xw_callVI (w' := w4 E o q u ad bd x q57 z) (u := (w4 E o q u ad bd x q57 z).take 1) (v := (w4 E o q u ad bd x q57 z).drop 7) C (ok_X3_keysHeld (o := q) (ad := ad) (x := q57) eq73) 0 gX4_giveUp_X3_keysHeld rfl ⟨rfl, rfl⟩ (by decide +kernel) ⟨Nat.le_of_ble_eq_true rfl, Nat.le_of_ble_eq_true rfl⟩ 0 3 rfl rfl rfl (Nat.le_of_ble_eq_true rfl) ⟨Nat.zero_le _, Nat.zero_le _⟩ rfl rfl (by rfl) dX4_giveUp_73 ?_
      refine xw_imul C dX4_giveUp_76 ?_
      refine xw_iconst C (2) dX4_giveUp_77 (by decide) ?_
      refine xw_aload_n C dX4_giveUp_78 rfl 3 rfl ?_
      refine xw_get C in4 0 rfl rfl 4 (by decide) m32 rfl rfl dX4_giveUp_79 ?_
      refine xw_imul C dX4_giveUp_82 ?_
      refine xw_icmp_ge C 97 dX4_giveUp_83 (by decide) (fun c83 => ?_) (fun c83 => ?_)
      · have h := px_t c83 h
        refine xw_iload_n C dX4_giveUp_97 rfl 1 rfl ?_
        cases h
        rw [hZ]
        exact xw_iret C hr dX4_giveUp_98
      · have h := px_f c83 h
        refine xw_aload_n C dX4_giveUp_86 rfl 3 rfl ?_
        refine xw_aload_n C dX4_giveUp_87 rfl 3 rfl ?_
        refine xw_get C in4 0 rfl rfl 1 (by decide) m18 rfl rfl dX4_giveUp_88 ?_
        refine xw_get C in3 1 rfl rfl 5 (by decide) m85 rfl rfl dX4_giveUp_91 ?_
        obtain ⟨q94, eq94, h⟩ := px_b h
        refine xw_callVV (w' := w4 E o q u ad bd q94.1 q94.2 z) (u := []) (v := []) C (ok_X4_evenOut (o := o) (q := q) (u := u) (ad := ad) (bd := bd) (x := x) (y := q57) (z := z) eq94) 1 gX4_giveUp_X4_evenOut rfl ⟨rfl, rfl⟩ (by decide +kernel) ⟨Nat.le_of_ble_eq_true rfl, Nat.le_of_ble_eq_true rfl⟩ 0 4 rfl rfl rfl (Nat.le_of_ble_eq_true rfl) ⟨Nat.zero_le _, Nat.zero_le _⟩ rfl xe0 xe0.symm dX4_giveUp_94 ?_
        refine xw_iload_n C dX4_giveUp_97 rfl 1 rfl ?_
        cases h
        rw [hZ]
        exact xw_iret C hr dX4_giveUp_98
  · have h := px_f c20 h
    refine xw_aload_n C dX4_giveUp_23 rfl 2 rfl ?_
    refine xw_iload_n C dX4_giveUp_24 rfl 1 rfl ?_
    obtain ⟨q25, eq25, h⟩ := px_b h
    refine xw_callVV (w' := w4 E o q u ad bd x q25 z) (u := []) (v := []) C (ok_X4_act (o := o) (q := q) (u := u) (ad := ad) (bd := bd) (x := x) (y := y) (z := z) eq25) 1 gX4_giveUp_X4_act rfl ⟨rfl, rfl⟩ (by decide +kernel) ⟨Nat.le_of_ble_eq_true rfl, Nat.le_of_ble_eq_true rfl⟩ 0 4 rfl rfl rfl (Nat.le_of_ble_eq_true rfl) ⟨Nat.zero_le _, Nat.zero_le _⟩ rfl xe0 xe0.symm dX4_giveUp_25 ?_
    refine xw_iload_n C dX4_giveUp_28 rfl 0 rfl ?_
    refine xw_ineg C dX4_giveUp_29 ?_
    cases h
    rw [hZ]
    exact xw_iret C hr dX4_giveUp_30
