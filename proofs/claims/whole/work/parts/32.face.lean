def fX5_isKey (p0 : Int32) : Option (Int32) :=
  (if p0 < 0 then
    some (0)
  else
    (if (64) ≤ p0 then
      some (0)
    else
      some (1)))
abbrev rmX5_isKey : Room := { frames := 0, cells := 0, slots := 0, locals := 0 }
set_option maxHeartbeats 4000000 in
set_option maxRecDepth 100000 in
theorem ok_X5_isKey {l : Launch} {E : En} {p0 : Int32} {r : Int32} (hf : fX5_isKey p0 = some r) : CI l yX5_isKey wsX5_isKey (rmX5_isKey) [.int p0] E ([]) ([]) (r) := by
  refine xc_I (by decide) rfl (Nat.le_of_ble_eq_true rfl) [(0, .int p0)] rfl (fun p e s m below meth c A C hr => ?_)
  generalize ([.int p0] : List Value).toArray = args at C ⊢
  obtain ⟨Z, hZ⟩ : ∃ Z, Z = ZI E ([]) (r) A below args s 0 0 := ⟨_, rfl⟩
  rw [← hZ]
  rw [fX5_isKey] at hf
  have h := hf
  refine xw_iload_n C dX5_isKey_0 rfl 0 rfl ?_
  refine xw_if_lt C 14 dX5_isKey_1 (by decide) (fun c1 => ?_) (fun c1 => ?_)
  · have h := px_t c1 h
    refine xw_iconst C (0) dX5_isKey_14 (by decide) ?_
    cases h
    rw [hZ]
    exact xw_zret C hr (Or.inl rfl) dX5_isKey_15
  · have h := px_f c1 h
    refine xw_iload_n C dX5_isKey_4 rfl 0 rfl ?_
    refine xw_bipush C (64) dX5_isKey_5 (by decide) ?_
    refine xw_icmp_ge C 14 dX5_isKey_7 (by decide) (fun c7 => ?_) (fun c7 => ?_)
    · have h := px_t c7 h
      refine xw_iconst C (0) dX5_isKey_14 (by decide) ?_
      cases h
      rw [hZ]
      exact xw_zret C hr (Or.inl rfl) dX5_isKey_15
    · have h := px_f c7 h
      refine xw_iconst C (1) dX5_isKey_10 (by decide) ?_
      refine xw_goto C 15 dX5_isKey_11 (by decide) ?_
      cases h
      rw [hZ]
      exact xw_zret C hr (Or.inr rfl) dX5_isKey_15
def fX5_add_N (p1 : Int32) (p2 : Int32) : Option (Int32) :=
  some (-1)
abbrev rmX5_add_N : Room := { frames := 1, cells := 0, slots := 0, locals := 21 }
set_option maxHeartbeats 4000000 in
set_option maxRecDepth 100000 in
theorem ok_X5_add_N {l : Launch} {E : En} {o : Nat} {q : Nat} {u : Nat} {ad : (Nat → Nat)} {bd : (Nat → Nat)} {cd : (Nat → Nat)} {gg : (Nat → Option Nat)} {W : va_W} {p1 : Int32} {p2 : Int32} {x : Ob} {y : Ob} {z : Ob} {r : Int32} (ht3 : tref gg p1 = none) (hf : fX5_add_N p1 p2 = some r) : CI l yX5_add wsX5_add (rmX5_add_N) [.ref o, .int p1, .int p2] E (wF E o q u ad bd cd gg x y z ++ W) (wF E o q u ad bd cd gg x y z ++ W) (r) := by
  refine xc_I (by decide) rfl (Nat.le_of_ble_eq_true rfl) [(0, .ref o), (1, .int p1), (2, .int p2)] rfl (fun p e s m below meth c A C hr => ?_)
  generalize ([.ref o, .int p1, .int p2] : List Value).toArray = args at C ⊢
  obtain ⟨Z, hZ⟩ : ∃ Z, Z = ZI E (wF E o q u ad bd cd gg x y z ++ W) (r) A below args s 0 0 := ⟨_, rfl⟩
  rw [← hZ]
  rw [fX5_add_N] at hf
  have h := hf
  refine xw_aload_n C dX5_add_0 rfl 0 rfl ?_
  refine xw_iload_n C dX5_add_1 rfl 1 rfl ?_
  refine xw_callVQ (w' := wF E o q u ad bd cd gg x y z ++ W) (u := (wF E o q u ad bd cd gg x y z ++ W).take 0) (v := (wF E o q u ad bd cd gg x y z ++ W).drop 4) C (ok_X5_treeOf (o := o) (q := q) (u := u) (ad := ad) (g := gg) (x := x)) 1 gX5_add_X5_treeOf rfl ⟨rfl, rfl⟩ (by decide +kernel) ⟨Nat.le_of_ble_eq_true rfl, Nat.le_of_ble_eq_true rfl⟩ 0 5 rfl rfl rfl (Nat.le_of_ble_eq_true rfl) ⟨Nat.zero_le _, Nat.zero_le _⟩ rfl rfl rfl dX5_add_2 (.null) (by rw [ht3]; rfl) ?_
  refine xw_astore_nN C dX5_add_5 rfl (by decide) (lv' := [(3, .null), (0, .ref o), (1, .int p1), (2, .int p2)]) rfl ?_
  refine xw_aload_nN C dX5_add_6 rfl 0 rfl ?_
  refine xw_ifnull_n C 28 dX5_add_7 (by decide) ?_
  refine xw_iconst C (-1) dX5_add_28 (by decide) ?_
  cases h
  rw [hZ]
  exact xw_iret C hr dX5_add_29
def fX5_add_T (p1 : Int32) (p2 : Int32) (x1 : Ob) (y1 : Ob) : Option (Int32 × Ob × Ob) :=
  Option.bind (fX5_isKey p2) (fun q11 =>
  (if q11 = 0 then
    some ((-1), x1, y1)
  else
    Option.bind (fX3_holds p2 y1) (fun q22 =>
    (if q22 = 0 then
      Option.bind (fX4_takeIn p2 x1 y1) (fun q32 =>
      some (q32.1, q32.2.1, q32.2.2))
    else
      some ((-1), x1, y1)))))
abbrev rmX5_add_T : Room := { frames := 76, cells := 0, slots := 0, locals := 1890 }
set_option maxHeartbeats 4000000 in
set_option maxRecDepth 100000 in
theorem ok_X5_add_T {l : Launch} {E : En} {o1 : Nat} {q1 : Nat} {u1 : Nat} {ad1 : (Nat → Nat)} {bd1 : (Nat → Nat)} {o : Nat} {q : Nat} {u : Nat} {ad : (Nat → Nat)} {bd : (Nat → Nat)} {cd : (Nat → Nat)} {gg : (Nat → Option Nat)} {W : va_W} {p1 : Int32} {p2 : Int32} {x1 : Ob} {y1 : Ob} {z1 : Ob} {x : Ob} {y : Ob} {z : Ob} {r : Int32 × Ob × Ob} (ht3 : tref gg p1 = some o1) (hf : fX5_add_T p1 p2 x1 y1 = some r) : CI l yX5_add wsX5_add (rmX5_add_T) [.ref o, .int p1, .int p2] E (w4 E o1 q1 u1 ad1 bd1 x1 y1 z1 ++ wF E o q u ad bd cd gg x y z ++ W) (w4 E o1 q1 u1 ad1 bd1 r.2.1 r.2.2 z1 ++ wF E o q u ad bd cd gg x y z ++ W) (r.1) := by
  refine xc_I (by decide) rfl (Nat.le_of_ble_eq_true rfl) [(0, .ref o), (1, .int p1), (2, .int p2)] rfl (fun p e s m below meth c A C hr => ?_)
  generalize ([.ref o, .int p1, .int p2] : List Value).toArray = args at C ⊢
  obtain ⟨Z, hZ⟩ : ∃ Z, Z = ZI E (w4 E o1 q1 u1 ad1 bd1 r.2.1 r.2.2 z1 ++ wF E o q u ad bd cd gg x y z ++ W) (r.1) A below args s 0 0 := ⟨_, rfl⟩
  rw [← hZ]
  have in4 : ∀ w ∈ wsX40, w ∈ wsX5_add := by decide +kernel
  have m55 : Cond.fieldLink RX5 55 "TurningTrees$Tree" "shape" "LTurningTrees$Shape;" ∈ wsX5_add := by decide +kernel
  rw [fX5_add_T] at hf
  have h := hf
  refine xw_aload_n C dX5_add_0 rfl 0 rfl ?_
  refine xw_iload_n C dX5_add_1 rfl 1 rfl ?_
  refine xw_callVQ (w' := w4 E o1 q1 u1 ad1 bd1 x1 y1 z1 ++ wF E o q u ad bd cd gg x y z ++ W) (u := (w4 E o1 q1 u1 ad1 bd1 x1 y1 z1 ++ wF E o q u ad bd cd gg x y z ++ W).take 9) (v := (w4 E o1 q1 u1 ad1 bd1 x1 y1 z1 ++ wF E o q u ad bd cd gg x y z ++ W).drop 13) C (ok_X5_treeOf (o := o) (q := q) (u := u) (ad := ad) (g := gg) (x := x)) 1 gX5_add_X5_treeOf rfl ⟨rfl, rfl⟩ (by decide +kernel) ⟨Nat.le_of_ble_eq_true rfl, Nat.le_of_ble_eq_true rfl⟩ 0 5 rfl rfl rfl (Nat.le_of_ble_eq_true rfl) ⟨Nat.zero_le _, Nat.zero_le _⟩ rfl rfl rfl dX5_add_2 (.ref o1) (by rw [ht3]; rfl) ?_
  refine xw_astore_n C dX5_add_5 rfl (by decide) (lv' := [(3, .ref o1), (0, .ref o), (1, .int p1), (2, .int p2)]) rfl ?_
  refine xw_aload_n C dX5_add_6 rfl 0 rfl ?_
  refine xw_ifnull_r C dX5_add_7 ?_
  refine xw_iload_n C dX5_add_10 rfl 3 rfl ?_
  obtain ⟨q11, eq11, h⟩ := px_b h
  refine xw_callSI (w' := w4 E o1 q1 u1 ad1 bd1 x1 y1 z1 ++ wF E o q u ad bd cd gg x y z ++ W) (u := []) (v := w4 E o1 q1 u1 ad1 bd1 x1 y1 z1 ++ wF E o q u ad bd cd gg x y z ++ W) C (ok_X5_isKey  eq11) 1 gX5_add_X5_isKey rfl ⟨rfl, rfl⟩ (by decide +kernel) ⟨Nat.le_of_ble_eq_true rfl, Nat.le_of_ble_eq_true rfl⟩ rfl (Nat.le_of_ble_eq_true rfl) ⟨Nat.zero_le _, Nat.zero_le _⟩ rfl rfl rfl dX5_add_11 ?_
  refine xw_if_eq C 28 dX5_add_14 (by decide) (fun c14 => ?_) (fun c14 => ?_)
  · have h := px_t c14 h
    refine xw_iconst C (-1) dX5_add_28 (by decide) ?_
    cases h
    rw [hZ]
    exact xw_iret C hr dX5_add_29
  · have h := px_f c14 h
    refine xw_aload_n C dX5_add_17 rfl 0 rfl ?_
    refine xw_get C in4 0 rfl rfl 1 (by decide) m55 rfl rfl dX5_add_18 ?_
    refine xw_iload_n C dX5_add_21 rfl 3 rfl ?_
    obtain ⟨q22, eq22, h⟩ := px_b h
    refine xw_callVI (w' := w4 E o1 q1 u1 ad1 bd1 x1 y1 z1 ++ wF E o q u ad bd cd gg x y z ++ W) (u := (w4 E o1 q1 u1 ad1 bd1 x1 y1 z1 ++ wF E o q u ad bd cd gg x y z ++ W).take 1) (v := (w4 E o1 q1 u1 ad1 bd1 x1 y1 z1 ++ wF E o q u ad bd cd gg x y z ++ W).drop 7) C (ok_X3_holds (o := q1) (ad := ad1) (x := y1) eq22) 1 gX5_add_X3_holds rfl ⟨rfl, rfl⟩ (by decide +kernel) ⟨Nat.le_of_ble_eq_true rfl, Nat.le_of_ble_eq_true rfl⟩ 0 3 rfl rfl rfl (Nat.le_of_ble_eq_true rfl) ⟨Nat.zero_le _, Nat.zero_le _⟩ rfl rfl (by rfl) dX5_add_22 ?_
    refine xw_if_eq C 30 dX5_add_25 (by decide) (fun c25 => ?_) (fun c25 => ?_)
    · have h := px_t c25 h
      refine xw_aload_n C dX5_add_30 rfl 0 rfl ?_
      refine xw_iload_n C dX5_add_31 rfl 3 rfl ?_
      obtain ⟨q32, eq32, h⟩ := px_b h
      refine xw_callVI (w' := w4 E o1 q1 u1 ad1 bd1 q32.2.1 q32.2.2 z1 ++ wF E o q u ad bd cd gg x y z ++ W) (u := (w4 E o1 q1 u1 ad1 bd1 x1 y1 z1 ++ wF E o q u ad bd cd gg x y z ++ W).take 0) (v := (w4 E o1 q1 u1 ad1 bd1 x1 y1 z1 ++ wF E o q u ad bd cd gg x y z ++ W).drop 9) C (ok_X4_takeIn (o := o1) (q := q1) (u := u1) (ad := ad1) (bd := bd1) (x := x1) (y := y1) (z := z1) eq32) 1 gX5_add_X4_takeIn rfl ⟨rfl, rfl⟩ (by decide +kernel) ⟨Nat.le_of_ble_eq_true rfl, Nat.le_of_ble_eq_true rfl⟩ 0 4 rfl rfl rfl (Nat.le_of_ble_eq_true rfl) ⟨Nat.zero_le _, Nat.zero_le _⟩ rfl rfl (by rfl) dX5_add_32 ?_
      cases h
      rw [hZ]
      exact xw_iret C hr dX5_add_35
    · have h := px_f c25 h
      refine xw_iconst C (-1) dX5_add_28 (by decide) ?_
      cases h
      rw [hZ]
      exact xw_iret C hr dX5_add_29
def fX5_ask_T (p1 : Int32) (p2 : Int32) (x1 : Ob) (y1 : Ob) (z1 : Ob) : Option (Int32 × Ob × Ob × Ob) :=
  Option.bind (fX5_isKey p2) (fun q11 =>
  (if q11 = 0 then
    none
  else
    Option.bind (fX4_seek p2 x1 y1 z1) (fun q29 =>
    some (q29.1, q29.2.1, q29.2.2.1, q29.2.2.2))))
abbrev rmX5_ask_T : Room := { frames := 6, cells := 0, slots := 0, locals := 135 }
set_option maxHeartbeats 4000000 in
set_option maxRecDepth 100000 in
theorem ok_X5_ask_T {l : Launch} {E : En} {o1 : Nat} {q1 : Nat} {u1 : Nat} {ad1 : (Nat → Nat)} {bd1 : (Nat → Nat)} {o : Nat} {q : Nat} {u : Nat} {ad : (Nat → Nat)} {bd : (Nat → Nat)} {cd : (Nat → Nat)} {gg : (Nat → Option Nat)} {W : va_W} {p1 : Int32} {p2 : Int32} {x1 : Ob} {y1 : Ob} {z1 : Ob} {x : Ob} {y : Ob} {z : Ob} {r : Int32 × Ob × Ob × Ob} (ht3 : tref gg p1 = some o1) (hf : fX5_ask_T p1 p2 x1 y1 z1 = some r) : CI l yX5_ask wsX5_ask (rmX5_ask_T) [.ref o, .int p1, .int p2] E (w4 E o1 q1 u1 ad1 bd1 x1 y1 z1 ++ wF E o q u ad bd cd gg x y z ++ W) (w4 E o1 q1 u1 ad1 bd1 r.2.1 r.2.2.1 r.2.2.2 ++ wF E o q u ad bd cd gg x y z ++ W) (r.1) := by
  refine xc_I (by decide) rfl (Nat.le_of_ble_eq_true rfl) [(0, .ref o), (1, .int p1), (2, .int p2)] rfl (fun p e s m below meth c A C hr => ?_)
  generalize ([.ref o, .int p1, .int p2] : List Value).toArray = args at C ⊢
  obtain ⟨Z, hZ⟩ : ∃ Z, Z = ZI E (w4 E o1 q1 u1 ad1 bd1 r.2.1 r.2.2.1 r.2.2.2 ++ wF E o q u ad bd cd gg x y z ++ W) (r.1) A below args s 0 0 := ⟨_, rfl⟩
  rw [← hZ]
  rw [fX5_ask_T] at hf
  have h := hf
  refine xw_aload_n C dX5_ask_0 rfl 0 rfl ?_
  refine xw_iload_n C dX5_ask_1 rfl 1 rfl ?_
  refine xw_callVQ (w' := w4 E o1 q1 u1 ad1 bd1 x1 y1 z1 ++ wF E o q u ad bd cd gg x y z ++ W) (u := (w4 E o1 q1 u1 ad1 bd1 x1 y1 z1 ++ wF E o q u ad bd cd gg x y z ++ W).take 9) (v := (w4 E o1 q1 u1 ad1 bd1 x1 y1 z1 ++ wF E o q u ad bd cd gg x y z ++ W).drop 13) C (ok_X5_treeOf (o := o) (q := q) (u := u) (ad := ad) (g := gg) (x := x)) 1 gX5_ask_X5_treeOf rfl ⟨rfl, rfl⟩ (by decide +kernel) ⟨Nat.le_of_ble_eq_true rfl, Nat.le_of_ble_eq_true rfl⟩ 0 5 rfl rfl rfl (Nat.le_of_ble_eq_true rfl) ⟨Nat.zero_le _, Nat.zero_le _⟩ rfl rfl rfl dX5_ask_2 (.ref o1) (by rw [ht3]; rfl) ?_
  refine xw_astore_n C dX5_ask_5 rfl (by decide) (lv' := [(3, .ref o1), (0, .ref o), (1, .int p1), (2, .int p2)]) rfl ?_
  refine xw_aload_n C dX5_ask_6 rfl 0 rfl ?_
  refine xw_ifnull_r C dX5_ask_7 ?_
  refine xw_iload_n C dX5_ask_10 rfl 3 rfl ?_
  obtain ⟨q11, eq11, h⟩ := px_b h
  refine xw_callSI (w' := w4 E o1 q1 u1 ad1 bd1 x1 y1 z1 ++ wF E o q u ad bd cd gg x y z ++ W) (u := []) (v := w4 E o1 q1 u1 ad1 bd1 x1 y1 z1 ++ wF E o q u ad bd cd gg x y z ++ W) C (ok_X5_isKey  eq11) 1 gX5_ask_X5_isKey rfl ⟨rfl, rfl⟩ (by decide +kernel) ⟨Nat.le_of_ble_eq_true rfl, Nat.le_of_ble_eq_true rfl⟩ rfl (Nat.le_of_ble_eq_true rfl) ⟨Nat.zero_le _, Nat.zero_le _⟩ rfl rfl rfl dX5_ask_11 ?_
  refine xw_if_ne C 27 dX5_ask_14 (by decide) (fun c14 => ?_) (fun c14 => ?_)
  · have h := px_f c14 h
    refine xw_aload_n C dX5_ask_27 rfl 0 rfl ?_
    refine xw_iload_n C dX5_ask_28 rfl 3 rfl ?_
    obtain ⟨q29, eq29, h⟩ := px_b h
    refine xw_callVI (w' := w4 E o1 q1 u1 ad1 bd1 q29.2.1 q29.2.2.1 q29.2.2.2 ++ wF E o q u ad bd cd gg x y z ++ W) (u := (w4 E o1 q1 u1 ad1 bd1 x1 y1 z1 ++ wF E o q u ad bd cd gg x y z ++ W).take 0) (v := (w4 E o1 q1 u1 ad1 bd1 x1 y1 z1 ++ wF E o q u ad bd cd gg x y z ++ W).drop 9) C (ok_X4_seek (o := o1) (q := q1) (u := u1) (ad := ad1) (bd := bd1) (x := x1) (y := y1) (z := z1) eq29) 1 gX5_ask_X4_seek rfl ⟨rfl, rfl⟩ (by decide +kernel) ⟨Nat.le_of_ble_eq_true rfl, Nat.le_of_ble_eq_true rfl⟩ 0 4 rfl rfl rfl (Nat.le_of_ble_eq_true rfl) ⟨Nat.zero_le _, Nat.zero_le _⟩ rfl rfl (by rfl) dX5_ask_29 ?_
    cases h
    rw [hZ]
    exact xw_iret C hr dX5_ask_32
  · have h := px_t c14 h
    cases h
def fX5_remove_T (p1 : Int32) (p2 : Int32) (x1 : Ob) (y1 : Ob) : Option (Int32 × Ob × Ob) :=
  Option.bind (fX5_isKey p2) (fun q11 =>
  (if q11 = 0 then
    none
  else
    Option.bind (fX4_giveUp p2 x1 y1) (fun q29 =>
    some (q29.1, q29.2.1, q29.2.2))))
abbrev rmX5_remove_T : Room := { frames := 76, cells := 0, slots := 0, locals := 1891 }
set_option maxHeartbeats 4000000 in
set_option maxRecDepth 100000 in
theorem ok_X5_remove_T {l : Launch} {E : En} {o1 : Nat} {q1 : Nat} {u1 : Nat} {ad1 : (Nat → Nat)} {bd1 : (Nat → Nat)} {o : Nat} {q : Nat} {u : Nat} {ad : (Nat → Nat)} {bd : (Nat → Nat)} {cd : (Nat → Nat)} {gg : (Nat → Option Nat)} {W : va_W} {p1 : Int32} {p2 : Int32} {x1 : Ob} {y1 : Ob} {z1 : Ob} {x : Ob} {y : Ob} {z : Ob} {r : Int32 × Ob × Ob} (ht3 : tref gg p1 = some o1) (hf : fX5_remove_T p1 p2 x1 y1 = some r) : CI l yX5_remove wsX5_remove (rmX5_remove_T) [.ref o, .int p1, .int p2] E (w4 E o1 q1 u1 ad1 bd1 x1 y1 z1 ++ wF E o q u ad bd cd gg x y z ++ W) (w4 E o1 q1 u1 ad1 bd1 r.2.1 r.2.2 z1 ++ wF E o q u ad bd cd gg x y z ++ W) (r.1) := by
  refine xc_I (by decide) rfl (Nat.le_of_ble_eq_true rfl) [(0, .ref o), (1, .int p1), (2, .int p2)] rfl (fun p e s m below meth c A C hr => ?_)
  generalize ([.ref o, .int p1, .int p2] : List Value).toArray = args at C ⊢
  obtain ⟨Z, hZ⟩ : ∃ Z, Z = ZI E (w4 E o1 q1 u1 ad1 bd1 r.2.1 r.2.2 z1 ++ wF E o q u ad bd cd gg x y z ++ W) (r.1) A below args s 0 0 := ⟨_, rfl⟩
  rw [← hZ]
  rw [fX5_remove_T] at hf
  have h := hf
  refine xw_aload_n C dX5_remove_0 rfl 0 rfl ?_
  refine xw_iload_n C dX5_remove_1 rfl 1 rfl ?_
  refine xw_callVQ (w' := w4 E o1 q1 u1 ad1 bd1 x1 y1 z1 ++ wF E o q u ad bd cd gg x y z ++ W) (u := (w4 E o1 q1 u1 ad1 bd1 x1 y1 z1 ++ wF E o q u ad bd cd gg x y z ++ W).take 9) (v := (w4 E o1 q1 u1 ad1 bd1 x1 y1 z1 ++ wF E o q u ad bd cd gg x y z ++ W).drop 13) C (ok_X5_treeOf (o := o) (q := q) (u := u) (ad := ad) (g := gg) (x := x)) 1 gX5_remove_X5_treeOf rfl ⟨rfl, rfl⟩ (by decide +kernel) ⟨Nat.le_of_ble_eq_true rfl, Nat.le_of_ble_eq_true rfl⟩ 0 5 rfl rfl rfl (Nat.le_of_ble_eq_true rfl) ⟨Nat.zero_le _, Nat.zero_le _⟩ rfl rfl rfl dX5_remove_2 (.ref o1) (by rw [ht3]; rfl) ?_
  refine xw_astore_n C dX5_remove_5 rfl (by decide) (lv' := [(3, .ref o1), (0, .ref o), (1, .int p1), (2, .int p2)]) rfl ?_
  refine xw_aload_n C dX5_remove_6 rfl 0 rfl ?_
  refine xw_ifnull_r C dX5_remove_7 ?_
  refine xw_iload_n C dX5_remove_10 rfl 3 rfl ?_
  obtain ⟨q11, eq11, h⟩ := px_b h
  refine xw_callSI (w' := w4 E o1 q1 u1 ad1 bd1 x1 y1 z1 ++ wF E o q u ad bd cd gg x y z ++ W) (u := []) (v := w4 E o1 q1 u1 ad1 bd1 x1 y1 z1 ++ wF E o q u ad bd cd gg x y z ++ W) C (ok_X5_isKey  eq11) 1 gX5_remove_X5_isKey rfl ⟨rfl, rfl⟩ (by decide +kernel) ⟨Nat.le_of_ble_eq_true rfl, Nat.le_of_ble_eq_true rfl⟩ rfl (Nat.le_of_ble_eq_true rfl) ⟨Nat.zero_le _, Nat.zero_le _⟩ rfl rfl rfl dX5_remove_11 ?_
  refine xw_if_ne C 27 dX5_remove_14 (by decide) (fun c14 => ?_) (fun c14 => ?_)
  · have h := px_f c14 h
    refine xw_aload_n C dX5_remove_27 rfl 0 rfl ?_
    refine xw_iload_n C dX5_remove_28 rfl 3 rfl ?_
    obtain ⟨q29, eq29, h⟩ := px_b h
    refine xw_callVI (w' := w4 E o1 q1 u1 ad1 bd1 q29.2.1 q29.2.2 z1 ++ wF E o q u ad bd cd gg x y z ++ W) (u := (w4 E o1 q1 u1 ad1 bd1 x1 y1 z1 ++ wF E o q u ad bd cd gg x y z ++ W).take 0) (v := (w4 E o1 q1 u1 ad1 bd1 x1 y1 z1 ++ wF E o q u ad bd cd gg x y z ++ W).drop 9) C (ok_X4_giveUp (o := o1) (q := q1) (u := u1) (ad := ad1) (bd := bd1) (x := x1) (y := y1) (z := z1) eq29) 1 gX5_remove_X4_giveUp rfl ⟨rfl, rfl⟩ (by decide +kernel) ⟨Nat.le_of_ble_eq_true rfl, Nat.le_of_ble_eq_true rfl⟩ 0 4 rfl rfl rfl (Nat.le_of_ble_eq_true rfl) ⟨Nat.zero_le _, Nat.zero_le _⟩ rfl rfl (by rfl) dX5_remove_29 ?_
    cases h
    rw [hZ]
    exact xw_iret C hr dX5_remove_32
  · have h := px_t c14 h
    cases h
def fX5_clear_N (p1 : Int32) : Option (Int32) :=
  some (-1)
abbrev rmX5_clear_N : Room := { frames := 1, cells := 0, slots := 0, locals := 21 }
set_option maxHeartbeats 4000000 in
set_option maxRecDepth 100000 in
theorem ok_X5_clear_N {l : Launch} {E : En} {o : Nat} {q : Nat} {u : Nat} {ad : (Nat → Nat)} {bd : (Nat → Nat)} {cd : (Nat → Nat)} {gg : (Nat → Option Nat)} {W : va_W} {p1 : Int32} {x : Ob} {y : Ob} {z : Ob} {r : Int32} (ht2 : tref gg p1 = none) (hf : fX5_clear_N p1 = some r) : CI l yX5_clear wsX5_clear (rmX5_clear_N) [.ref o, .int p1] E (wF E o q u ad bd cd gg x y z ++ W) (wF E o q u ad bd cd gg x y z ++ W) (r) := by
  refine xc_I (by decide) rfl (Nat.le_of_ble_eq_true rfl) [(0, .ref o), (1, .int p1)] rfl (fun p e s m below meth c A C hr => ?_)
  generalize ([.ref o, .int p1] : List Value).toArray = args at C ⊢
  obtain ⟨Z, hZ⟩ : ∃ Z, Z = ZI E (wF E o q u ad bd cd gg x y z ++ W) (r) A below args s 0 0 := ⟨_, rfl⟩
  rw [← hZ]
  rw [fX5_clear_N] at hf
  have h := hf
  refine xw_aload_n C dX5_clear_0 rfl 0 rfl ?_
  refine xw_iload_n C dX5_clear_1 rfl 1 rfl ?_
  refine xw_callVQ (w' := wF E o q u ad bd cd gg x y z ++ W) (u := (wF E o q u ad bd cd gg x y z ++ W).take 0) (v := (wF E o q u ad bd cd gg x y z ++ W).drop 4) C (ok_X5_treeOf (o := o) (q := q) (u := u) (ad := ad) (g := gg) (x := x)) 1 gX5_clear_X5_treeOf rfl ⟨rfl, rfl⟩ (by decide +kernel) ⟨Nat.le_of_ble_eq_true rfl, Nat.le_of_ble_eq_true rfl⟩ 0 5 rfl rfl rfl (Nat.le_of_ble_eq_true rfl) ⟨Nat.zero_le _, Nat.zero_le _⟩ rfl rfl rfl dX5_clear_2 (.null) (by rw [ht2]; rfl) ?_
  refine xw_astore_nN C dX5_clear_5 rfl (by decide) (lv' := [(2, .null), (0, .ref o), (1, .int p1)]) rfl ?_
  refine xw_aload_nN C dX5_clear_6 rfl 0 rfl ?_
  refine xw_ifnonnull_n C dX5_clear_7 ?_
  refine xw_iconst C (-1) dX5_clear_10 (by decide) ?_
  refine xw_goto C 21 dX5_clear_11 (by decide) ?_
  cases h
  rw [hZ]
  exact xw_iret C hr dX5_clear_21
def fX5_clear_T (p1 : Int32) (z1 : Ob) : Option (Int32 × Ob) :=
  Option.bind (fX2_wipe z1) (fun q18 =>
  some (q18.1, q18.2))
abbrev rmX5_clear_T : Room := { frames := 1, cells := 0, slots := 0, locals := 21 }
set_option maxHeartbeats 4000000 in
set_option maxRecDepth 100000 in
theorem ok_X5_clear_T {l : Launch} {E : En} {o1 : Nat} {q1 : Nat} {u1 : Nat} {ad1 : (Nat → Nat)} {bd1 : (Nat → Nat)} {o : Nat} {q : Nat} {u : Nat} {ad : (Nat → Nat)} {bd : (Nat → Nat)} {cd : (Nat → Nat)} {gg : (Nat → Option Nat)} {W : va_W} {p1 : Int32} {x1 : Ob} {y1 : Ob} {z1 : Ob} {x : Ob} {y : Ob} {z : Ob} {r : Int32 × Ob} (ht2 : tref gg p1 = some o1) (hf : fX5_clear_T p1 z1 = some r) : CI l yX5_clear wsX5_clear (rmX5_clear_T) [.ref o, .int p1] E (w4 E o1 q1 u1 ad1 bd1 x1 y1 z1 ++ wF E o q u ad bd cd gg x y z ++ W) (w4 E o1 q1 u1 ad1 bd1 x1 y1 r.2 ++ wF E o q u ad bd cd gg x y z ++ W) (r.1) := by
  refine xc_I (by decide) rfl (Nat.le_of_ble_eq_true rfl) [(0, .ref o), (1, .int p1)] rfl (fun p e s m below meth c A C hr => ?_)
  generalize ([.ref o, .int p1] : List Value).toArray = args at C ⊢
  obtain ⟨Z, hZ⟩ : ∃ Z, Z = ZI E (w4 E o1 q1 u1 ad1 bd1 x1 y1 r.2 ++ wF E o q u ad bd cd gg x y z ++ W) (r.1) A below args s 0 0 := ⟨_, rfl⟩
  rw [← hZ]
  have in4 : ∀ w ∈ wsX40, w ∈ wsX5_clear := by decide +kernel
  have m98 : Cond.fieldLink RX5 98 "TurningTrees$Tree" "row" "LTurningTrees$Row;" ∈ wsX5_clear := by decide +kernel
  rw [fX5_clear_T] at hf
  have h := hf
  refine xw_aload_n C dX5_clear_0 rfl 0 rfl ?_
  refine xw_iload_n C dX5_clear_1 rfl 1 rfl ?_
  refine xw_callVQ (w' := w4 E o1 q1 u1 ad1 bd1 x1 y1 z1 ++ wF E o q u ad bd cd gg x y z ++ W) (u := (w4 E o1 q1 u1 ad1 bd1 x1 y1 z1 ++ wF E o q u ad bd cd gg x y z ++ W).take 9) (v := (w4 E o1 q1 u1 ad1 bd1 x1 y1 z1 ++ wF E o q u ad bd cd gg x y z ++ W).drop 13) C (ok_X5_treeOf (o := o) (q := q) (u := u) (ad := ad) (g := gg) (x := x)) 1 gX5_clear_X5_treeOf rfl ⟨rfl, rfl⟩ (by decide +kernel) ⟨Nat.le_of_ble_eq_true rfl, Nat.le_of_ble_eq_true rfl⟩ 0 5 rfl rfl rfl (Nat.le_of_ble_eq_true rfl) ⟨Nat.zero_le _, Nat.zero_le _⟩ rfl rfl rfl dX5_clear_2 (.ref o1) (by rw [ht2]; rfl) ?_
  refine xw_astore_n C dX5_clear_5 rfl (by decide) (lv' := [(2, .ref o1), (0, .ref o), (1, .int p1)]) rfl ?_
  refine xw_aload_n C dX5_clear_6 rfl 0 rfl ?_
  refine xw_ifnonnull_r C 14 dX5_clear_7 (by decide) ?_
  refine xw_aload_n C dX5_clear_14 rfl 0 rfl ?_
  refine xw_get C in4 0 rfl rfl 2 (by decide) m98 rfl rfl dX5_clear_15 ?_
  obtain ⟨q18, eq18, h⟩ := px_b h
  refine xw_callVI (w' := w4 E o1 q1 u1 ad1 bd1 x1 y1 q18.2 ++ wF E o q u ad bd cd gg x y z ++ W) (u := (w4 E o1 q1 u1 ad1 bd1 x1 y1 z1 ++ wF E o q u ad bd cd gg x y z ++ W).take 7) (v := (w4 E o1 q1 u1 ad1 bd1 x1 y1 z1 ++ wF E o q u ad bd cd gg x y z ++ W).drop 9) C (ok_X2_wipe (o := u1) (ad := bd1) (x := z1) eq18) 0 gX5_clear_X2_wipe rfl ⟨rfl, rfl⟩ (by decide +kernel) ⟨Nat.le_of_ble_eq_true rfl, Nat.le_of_ble_eq_true rfl⟩ 0 2 rfl rfl rfl (Nat.le_of_ble_eq_true rfl) ⟨Nat.zero_le _, Nat.zero_le _⟩ rfl rfl (by rfl) dX5_clear_18 ?_
  cases h
  rw [hZ]
  exact xw_iret C hr dX5_clear_21
def fX5_look_T (p1 : Int32) (p2 : Int32) (p3 : Int32) (y1 : Ob) : Option (Int32) :=
  Option.bind (fX3_holds p2 y1) (fun q18 =>
  (if q18 = 0 then
    none
  else
    (if p3 = (0) then
      Option.bind (fX3_depthOf p2 y1) (fun q74 =>
      some q74)
    else
    (if p3 = (1) then
      Option.bind (fX3_upOf p2 y1) (fun q84 =>
      some q84)
    else
    (if p3 = (2) then
      Option.bind (fX3_leftOf p2 y1) (fun q94 =>
      some q94)
    else
    (if p3 = (3) then
      Option.bind (fX3_rightOf p2 y1) (fun q104 =>
      some q104)
    else
    (if p3 = (4) then
      Option.bind (fX3_sizeOf p2 y1) (fun q114 =>
      some q114)
    else
      none)))))))
abbrev rmX5_look_T : Room := { frames := 3, cells := 0, slots := 0, locals := 65 }
set_option maxHeartbeats 4000000 in
set_option maxRecDepth 100000 in
theorem ok_X5_look_T {l : Launch} {E : En} {o1 : Nat} {q1 : Nat} {u1 : Nat} {ad1 : (Nat → Nat)} {bd1 : (Nat → Nat)} {o : Nat} {q : Nat} {u : Nat} {ad : (Nat → Nat)} {bd : (Nat → Nat)} {cd : (Nat → Nat)} {gg : (Nat → Option Nat)} {W : va_W} {p1 : Int32} {p2 : Int32} {p3 : Int32} {x1 : Ob} {y1 : Ob} {z1 : Ob} {x : Ob} {y : Ob} {z : Ob} {r : Int32} (ht4 : tref gg p1 = some o1) (hf : fX5_look_T p1 p2 p3 y1 = some r) : CI l yX5_look wsX5_look (rmX5_look_T) [.ref o, .int p1, .int p2, .int p3] E (w4 E o1 q1 u1 ad1 bd1 x1 y1 z1 ++ wF E o q u ad bd cd gg x y z ++ W) (w4 E o1 q1 u1 ad1 bd1 x1 y1 z1 ++ wF E o q u ad bd cd gg x y z ++ W) (r) := by
  refine xc_I (by decide) rfl (Nat.le_of_ble_eq_true rfl) [(0, .ref o), (1, .int p1), (2, .int p2), (3, .int p3)] rfl (fun p e s m below meth c A C hr => ?_)
  generalize ([.ref o, .int p1, .int p2, .int p3] : List Value).toArray = args at C ⊢
  obtain ⟨Z, hZ⟩ : ∃ Z, Z = ZI E (w4 E o1 q1 u1 ad1 bd1 x1 y1 z1 ++ wF E o q u ad bd cd gg x y z ++ W) (r) A below args s 0 0 := ⟨_, rfl⟩
  rw [← hZ]
  have in4 : ∀ w ∈ wsX40, w ∈ wsX5_look := by decide +kernel
  have m55 : Cond.fieldLink RX5 55 "TurningTrees$Tree" "shape" "LTurningTrees$Shape;" ∈ wsX5_look := by decide +kernel
  rw [fX5_look_T] at hf
  have h := hf
  refine xw_aload_n C dX5_look_0 rfl 0 rfl ?_
  refine xw_iload_n C dX5_look_1 rfl 1 rfl ?_
  refine xw_callVQ (w' := w4 E o1 q1 u1 ad1 bd1 x1 y1 z1 ++ wF E o q u ad bd cd gg x y z ++ W) (u := (w4 E o1 q1 u1 ad1 bd1 x1 y1 z1 ++ wF E o q u ad bd cd gg x y z ++ W).take 9) (v := (w4 E o1 q1 u1 ad1 bd1 x1 y1 z1 ++ wF E o q u ad bd cd gg x y z ++ W).drop 13) C (ok_X5_treeOf (o := o) (q := q) (u := u) (ad := ad) (g := gg) (x := x)) 1 gX5_look_X5_treeOf rfl ⟨rfl, rfl⟩ (by decide +kernel) ⟨Nat.le_of_ble_eq_true rfl, Nat.le_of_ble_eq_true rfl⟩ 0 5 rfl rfl rfl (Nat.le_of_ble_eq_true rfl) ⟨Nat.zero_le _, Nat.zero_le _⟩ rfl rfl rfl dX5_look_2 (.ref o1) (by rw [ht4]; rfl) ?_
  refine xw_astore C dX5_look_5 (by decide) (lv' := [(4, .ref o1), (0, .ref o), (1, .int p1), (2, .int p2), (3, .int p3)]) rfl ?_
  refine xw_aload C dX5_look_7 0 rfl ?_
  refine xw_ifnull_r C dX5_look_9 ?_
  refine xw_aload C dX5_look_12 0 rfl ?_
  refine xw_get C in4 0 rfl rfl 1 (by decide) m55 rfl rfl dX5_look_14 ?_
  refine xw_iload_n C dX5_look_17 rfl 3 rfl ?_
  obtain ⟨q18, eq18, h⟩ := px_b h
  refine xw_callVI (w' := w4 E o1 q1 u1 ad1 bd1 x1 y1 z1 ++ wF E o q u ad bd cd gg x y z ++ W) (u := (w4 E o1 q1 u1 ad1 bd1 x1 y1 z1 ++ wF E o q u ad bd cd gg x y z ++ W).take 1) (v := (w4 E o1 q1 u1 ad1 bd1 x1 y1 z1 ++ wF E o q u ad bd cd gg x y z ++ W).drop 7) C (ok_X3_holds (o := q1) (ad := ad1) (x := y1) eq18) 1 gX5_look_X3_holds rfl ⟨rfl, rfl⟩ (by decide +kernel) ⟨Nat.le_of_ble_eq_true rfl, Nat.le_of_ble_eq_true rfl⟩ 0 3 rfl rfl rfl (Nat.le_of_ble_eq_true rfl) ⟨Nat.zero_le _, Nat.zero_le _⟩ rfl rfl (by rfl) dX5_look_18 ?_
  refine xw_if_ne C 34 dX5_look_21 (by decide) (fun c21 => ?_) (fun c21 => ?_)
  · have h := px_f c21 h
    refine xw_iload_n C dX5_look_34 rfl 4 rfl ?_
    refine Or.elim (px_c h) (fun q => ?_) (fun q => ?_)
    · obtain ⟨c35_0, h⟩ := q
      refine xw_tabIn (off := 33) C 68 dX5_look_35 (0) c35_0 (by decide) (by decide) (by decide) (by decide) ?_
      refine xw_aload C dX5_look_68 0 rfl ?_
      refine xw_get C in4 0 rfl rfl 1 (by decide) m55 rfl rfl dX5_look_70 ?_
      refine xw_iload_n C dX5_look_73 rfl 3 rfl ?_
      obtain ⟨q74, eq74, h⟩ := px_b h
      refine xw_callVI (w' := w4 E o1 q1 u1 ad1 bd1 x1 y1 z1 ++ wF E o q u ad bd cd gg x y z ++ W) (u := (w4 E o1 q1 u1 ad1 bd1 x1 y1 z1 ++ wF E o q u ad bd cd gg x y z ++ W).take 1) (v := (w4 E o1 q1 u1 ad1 bd1 x1 y1 z1 ++ wF E o q u ad bd cd gg x y z ++ W).drop 7) C (ok_X3_depthOf (o := q1) (ad := ad1) (x := y1) eq74) 1 gX5_look_X3_depthOf rfl ⟨rfl, rfl⟩ (by decide +kernel) ⟨Nat.le_of_ble_eq_true rfl, Nat.le_of_ble_eq_true rfl⟩ 0 3 rfl rfl rfl (Nat.le_of_ble_eq_true rfl) ⟨Nat.zero_le _, Nat.zero_le _⟩ rfl rfl (by rfl) dX5_look_74 ?_
      cases h
      rw [hZ]
      exact xw_iret C hr dX5_look_77
    obtain ⟨c35_0, h⟩ := q
    refine Or.elim (px_c h) (fun q => ?_) (fun q => ?_)
    · obtain ⟨c35_1, h⟩ := q
      refine xw_tabIn (off := 43) C 78 dX5_look_35 (1) c35_1 (by decide) (by decide) (by decide) (by decide) ?_
      refine xw_aload C dX5_look_78 0 rfl ?_
      refine xw_get C in4 0 rfl rfl 1 (by decide) m55 rfl rfl dX5_look_80 ?_
      refine xw_iload_n C dX5_look_83 rfl 3 rfl ?_
      obtain ⟨q84, eq84, h⟩ := px_b h
      refine xw_callVI (w' := w4 E o1 q1 u1 ad1 bd1 x1 y1 z1 ++ wF E o q u ad bd cd gg x y z ++ W) (u := (w4 E o1 q1 u1 ad1 bd1 x1 y1 z1 ++ wF E o q u ad bd cd gg x y z ++ W).take 1) (v := (w4 E o1 q1 u1 ad1 bd1 x1 y1 z1 ++ wF E o q u ad bd cd gg x y z ++ W).drop 7) C (ok_X3_upOf (o := q1) (ad := ad1) (x := y1) eq84) 1 gX5_look_X3_upOf rfl ⟨rfl, rfl⟩ (by decide +kernel) ⟨Nat.le_of_ble_eq_true rfl, Nat.le_of_ble_eq_true rfl⟩ 0 3 rfl rfl rfl (Nat.le_of_ble_eq_true rfl) ⟨Nat.zero_le _, Nat.zero_le _⟩ rfl rfl (by rfl) dX5_look_84 ?_
      cases h
      rw [hZ]
      exact xw_iret C hr dX5_look_87
    obtain ⟨c35_1, h⟩ := q
    refine Or.elim (px_c h) (fun q => ?_) (fun q => ?_)
    · obtain ⟨c35_2, h⟩ := q
      refine xw_tabIn (off := 53) C 88 dX5_look_35 (2) c35_2 (by decide) (by decide) (by decide) (by decide) ?_
      refine xw_aload C dX5_look_88 0 rfl ?_
      refine xw_get C in4 0 rfl rfl 1 (by decide) m55 rfl rfl dX5_look_90 ?_
      refine xw_iload_n C dX5_look_93 rfl 3 rfl ?_
      obtain ⟨q94, eq94, h⟩ := px_b h
      refine xw_callVI (w' := w4 E o1 q1 u1 ad1 bd1 x1 y1 z1 ++ wF E o q u ad bd cd gg x y z ++ W) (u := (w4 E o1 q1 u1 ad1 bd1 x1 y1 z1 ++ wF E o q u ad bd cd gg x y z ++ W).take 1) (v := (w4 E o1 q1 u1 ad1 bd1 x1 y1 z1 ++ wF E o q u ad bd cd gg x y z ++ W).drop 7) C (ok_X3_leftOf (o := q1) (ad := ad1) (x := y1) eq94) 1 gX5_look_X3_leftOf rfl ⟨rfl, rfl⟩ (by decide +kernel) ⟨Nat.le_of_ble_eq_true rfl, Nat.le_of_ble_eq_true rfl⟩ 0 3 rfl rfl rfl (Nat.le_of_ble_eq_true rfl) ⟨Nat.zero_le _, Nat.zero_le _⟩ rfl rfl (by rfl) dX5_look_94 ?_
      cases h
      rw [hZ]
      exact xw_iret C hr dX5_look_97
    obtain ⟨c35_2, h⟩ := q
    refine Or.elim (px_c h) (fun q => ?_) (fun q => ?_)
    · obtain ⟨c35_3, h⟩ := q
      refine xw_tabIn (off := 63) C 98 dX5_look_35 (3) c35_3 (by decide) (by decide) (by decide) (by decide) ?_
      refine xw_aload C dX5_look_98 0 rfl ?_
      refine xw_get C in4 0 rfl rfl 1 (by decide) m55 rfl rfl dX5_look_100 ?_
      refine xw_iload_n C dX5_look_103 rfl 3 rfl ?_
      obtain ⟨q104, eq104, h⟩ := px_b h
      refine xw_callVI (w' := w4 E o1 q1 u1 ad1 bd1 x1 y1 z1 ++ wF E o q u ad bd cd gg x y z ++ W) (u := (w4 E o1 q1 u1 ad1 bd1 x1 y1 z1 ++ wF E o q u ad bd cd gg x y z ++ W).take 1) (v := (w4 E o1 q1 u1 ad1 bd1 x1 y1 z1 ++ wF E o q u ad bd cd gg x y z ++ W).drop 7) C (ok_X3_rightOf (o := q1) (ad := ad1) (x := y1) eq104) 1 gX5_look_X3_rightOf rfl ⟨rfl, rfl⟩ (by decide +kernel) ⟨Nat.le_of_ble_eq_true rfl, Nat.le_of_ble_eq_true rfl⟩ 0 3 rfl rfl rfl (Nat.le_of_ble_eq_true rfl) ⟨Nat.zero_le _, Nat.zero_le _⟩ rfl rfl (by rfl) dX5_look_104 ?_
      cases h
      rw [hZ]
      exact xw_iret C hr dX5_look_107
    obtain ⟨c35_3, h⟩ := q
    refine Or.elim (px_c h) (fun q => ?_) (fun q => ?_)
    · obtain ⟨c35_4, h⟩ := q
      refine xw_tabIn (off := 73) C 108 dX5_look_35 (4) c35_4 (by decide) (by decide) (by decide) (by decide) ?_
      refine xw_aload C dX5_look_108 0 rfl ?_
      refine xw_get C in4 0 rfl rfl 1 (by decide) m55 rfl rfl dX5_look_110 ?_
      refine xw_iload_n C dX5_look_113 rfl 3 rfl ?_
      obtain ⟨q114, eq114, h⟩ := px_b h
      refine xw_callVI (w' := w4 E o1 q1 u1 ad1 bd1 x1 y1 z1 ++ wF E o q u ad bd cd gg x y z ++ W) (u := (w4 E o1 q1 u1 ad1 bd1 x1 y1 z1 ++ wF E o q u ad bd cd gg x y z ++ W).take 1) (v := (w4 E o1 q1 u1 ad1 bd1 x1 y1 z1 ++ wF E o q u ad bd cd gg x y z ++ W).drop 7) C (ok_X3_sizeOf (o := q1) (ad := ad1) (x := y1) eq114) 1 gX5_look_X3_sizeOf rfl ⟨rfl, rfl⟩ (by decide +kernel) ⟨Nat.le_of_ble_eq_true rfl, Nat.le_of_ble_eq_true rfl⟩ 0 3 rfl rfl rfl (Nat.le_of_ble_eq_true rfl) ⟨Nat.zero_le _, Nat.zero_le _⟩ rfl rfl (by rfl) dX5_look_114 ?_
      cases h
      rw [hZ]
      exact xw_iret C hr dX5_look_117
    obtain ⟨c35_4, h⟩ := q
    refine xw_tabOut C 118 dX5_look_35 (by have t0 := xt_ne (k := 0) c35_0 (by decide); have t1 := xt_ne (k := 1) c35_1 (by decide); have t2 := xt_ne (k := 2) c35_2 (by decide); have t3 := xt_ne (k := 3) c35_3 (by decide); have t4 := xt_ne (k := 4) c35_4 (by decide); omega) (by decide) ?_
    cases h
  · have h := px_t c21 h
    cases h
def fX5_count_N (p1 : Int32) (p2 : Int32) : Option (Int32) :=
  some (-1)
abbrev rmX5_count_N : Room := { frames := 1, cells := 0, slots := 0, locals := 21 }
set_option maxHeartbeats 4000000 in
set_option maxRecDepth 100000 in
theorem ok_X5_count_N {l : Launch} {E : En} {o : Nat} {q : Nat} {u : Nat} {ad : (Nat → Nat)} {bd : (Nat → Nat)} {cd : (Nat → Nat)} {gg : (Nat → Option Nat)} {W : va_W} {p1 : Int32} {p2 : Int32} {x : Ob} {y : Ob} {z : Ob} {r : Int32} (ht3 : tref gg p1 = none) (hf : fX5_count_N p1 p2 = some r) : CI l yX5_count wsX5_count (rmX5_count_N) [.ref o, .int p1, .int p2] E (wF E o q u ad bd cd gg x y z ++ W) (wF E o q u ad bd cd gg x y z ++ W) (r) := by
  refine xc_I (by decide) rfl (Nat.le_of_ble_eq_true rfl) [(0, .ref o), (1, .int p1), (2, .int p2)] rfl (fun p e s m below meth c A C hr => ?_)
  generalize ([.ref o, .int p1, .int p2] : List Value).toArray = args at C ⊢
  obtain ⟨Z, hZ⟩ : ∃ Z, Z = ZI E (wF E o q u ad bd cd gg x y z ++ W) (r) A below args s 0 0 := ⟨_, rfl⟩
  rw [← hZ]
  rw [fX5_count_N] at hf
  have h := hf
  refine xw_aload_n C dX5_count_0 rfl 0 rfl ?_
  refine xw_iload_n C dX5_count_1 rfl 1 rfl ?_
  refine xw_callVQ (w' := wF E o q u ad bd cd gg x y z ++ W) (u := (wF E o q u ad bd cd gg x y z ++ W).take 0) (v := (wF E o q u ad bd cd gg x y z ++ W).drop 4) C (ok_X5_treeOf (o := o) (q := q) (u := u) (ad := ad) (g := gg) (x := x)) 1 gX5_count_X5_treeOf rfl ⟨rfl, rfl⟩ (by decide +kernel) ⟨Nat.le_of_ble_eq_true rfl, Nat.le_of_ble_eq_true rfl⟩ 0 5 rfl rfl rfl (Nat.le_of_ble_eq_true rfl) ⟨Nat.zero_le _, Nat.zero_le _⟩ rfl rfl rfl dX5_count_2 (.null) (by rw [ht3]; rfl) ?_
  refine xw_astore_nN C dX5_count_5 rfl (by decide) (lv' := [(3, .null), (0, .ref o), (1, .int p1), (2, .int p2)]) rfl ?_
  refine xw_aload_nN C dX5_count_6 rfl 0 rfl ?_
  refine xw_ifnonnull_n C dX5_count_7 ?_
  refine xw_iconst C (-1) dX5_count_10 (by decide) ?_
  cases h
  rw [hZ]
  exact xw_iret C hr dX5_count_11
def fX5_count_T (p1 : Int32) (p2 : Int32) (x1 : Ob) (y1 : Ob) (z1 : Ob) : Option (Int32) :=
  (if p2 = (0) then
    some (x1.1 0)
  else
  (if p2 = (1) then
    Option.bind (fX3_keysHeld y1) (fun q73 =>
    some q73)
  else
  (if p2 = (2) then
    some (y1.1 5)
  else
  (if p2 = (3) then
    Option.bind (fX3_greatestDepth y1) (fun q89 =>
    some q89)
  else
  (if p2 = (4) then
    some (y1.1 6)
  else
  (if p2 = (5) then
    some (x1.1 3)
  else
  (if p2 = (6) then
    some (z1.1 1)
  else
  (if p2 = (7) then
    Option.bind (fX3_potential y1) (fun q118 =>
    some q118)
  else
  (if p2 = (8) then
    some (x1.1 4)
  else
    some (-1))))))))))
abbrev rmX5_count_T : Room := { frames := 4, cells := 0, slots := 0, locals := 87 }
set_option maxHeartbeats 4000000 in
set_option maxRecDepth 100000 in
theorem ok_X5_count_T {l : Launch} {E : En} {o1 : Nat} {q1 : Nat} {u1 : Nat} {ad1 : (Nat → Nat)} {bd1 : (Nat → Nat)} {o : Nat} {q : Nat} {u : Nat} {ad : (Nat → Nat)} {bd : (Nat → Nat)} {cd : (Nat → Nat)} {gg : (Nat → Option Nat)} {W : va_W} {p1 : Int32} {p2 : Int32} {x1 : Ob} {y1 : Ob} {z1 : Ob} {x : Ob} {y : Ob} {z : Ob} {r : Int32} (ht3 : tref gg p1 = some o1) (hf : fX5_count_T p1 p2 x1 y1 z1 = some r) : CI l yX5_count wsX5_count (rmX5_count_T) [.ref o, .int p1, .int p2] E (w4 E o1 q1 u1 ad1 bd1 x1 y1 z1 ++ wF E o q u ad bd cd gg x y z ++ W) (w4 E o1 q1 u1 ad1 bd1 x1 y1 z1 ++ wF E o q u ad bd cd gg x y z ++ W) (r) := by
  refine xc_I (by decide) rfl (Nat.le_of_ble_eq_true rfl) [(0, .ref o), (1, .int p1), (2, .int p2)] rfl (fun p e s m below meth c A C hr => ?_)
  generalize ([.ref o, .int p1, .int p2] : List Value).toArray = args at C ⊢
  obtain ⟨Z, hZ⟩ : ∃ Z, Z = ZI E (w4 E o1 q1 u1 ad1 bd1 x1 y1 z1 ++ wF E o q u ad bd cd gg x y z ++ W) (r) A below args s 0 0 := ⟨_, rfl⟩
  rw [← hZ]
  have in2 : ∀ w ∈ wsX20, w ∈ wsX5_count := by decide +kernel
  have in3 : ∀ w ∈ wsX30, w ∈ wsX5_count := by decide +kernel
  have in4 : ∀ w ∈ wsX40, w ∈ wsX5_count := by decide +kernel
  have m55 : Cond.fieldLink RX5 55 "TurningTrees$Tree" "shape" "LTurningTrees$Shape;" ∈ wsX5_count := by decide +kernel
  have m80 : Cond.fieldLink RX5 80 "TurningTrees$Tree" "kind" "I" ∈ wsX5_count := by decide +kernel
  have m98 : Cond.fieldLink RX5 98 "TurningTrees$Tree" "row" "LTurningTrees$Row;" ∈ wsX5_count := by decide +kernel
  have m130 : Cond.fieldLink RX5 130 "TurningTrees$Shape" "root" "I" ∈ wsX5_count := by decide +kernel
  have m136 : Cond.fieldLink RX5 136 "TurningTrees$Shape" "turns" "I" ∈ wsX5_count := by decide +kernel
  have m139 : Cond.fieldLink RX5 139 "TurningTrees$Tree" "costs" "I" ∈ wsX5_count := by decide +kernel
  have m142 : Cond.fieldLink RX5 142 "TurningTrees$Row" "length" "I" ∈ wsX5_count := by decide +kernel
  have m148 : Cond.fieldLink RX5 148 "TurningTrees$Tree" "most" "I" ∈ wsX5_count := by decide +kernel
  rw [fX5_count_T] at hf
  have h := hf
  refine xw_aload_n C dX5_count_0 rfl 0 rfl ?_
  refine xw_iload_n C dX5_count_1 rfl 1 rfl ?_
  refine xw_callVQ (w' := w4 E o1 q1 u1 ad1 bd1 x1 y1 z1 ++ wF E o q u ad bd cd gg x y z ++ W) (u := (w4 E o1 q1 u1 ad1 bd1 x1 y1 z1 ++ wF E o q u ad bd cd gg x y z ++ W).take 9) (v := (w4 E o1 q1 u1 ad1 bd1 x1 y1 z1 ++ wF E o q u ad bd cd gg x y z ++ W).drop 13) C (ok_X5_treeOf (o := o) (q := q) (u := u) (ad := ad) (g := gg) (x := x)) 1 gX5_count_X5_treeOf rfl ⟨rfl, rfl⟩ (by decide +kernel) ⟨Nat.le_of_ble_eq_true rfl, Nat.le_of_ble_eq_true rfl⟩ 0 5 rfl rfl rfl (Nat.le_of_ble_eq_true rfl) ⟨Nat.zero_le _, Nat.zero_le _⟩ rfl rfl rfl dX5_count_2 (.ref o1) (by rw [ht3]; rfl) ?_
  refine xw_astore_n C dX5_count_5 rfl (by decide) (lv' := [(3, .ref o1), (0, .ref o), (1, .int p1), (2, .int p2)]) rfl ?_
  refine xw_aload_n C dX5_count_6 rfl 0 rfl ?_
  refine xw_ifnonnull_r C 12 dX5_count_7 (by decide) ?_
  refine xw_iload_n C dX5_count_12 rfl 3 rfl ?_
  refine Or.elim (px_c h) (fun q => ?_) (fun q => ?_)
  · obtain ⟨c13_0, h⟩ := q
    refine xw_tabIn (off := 51) C 64 dX5_count_13 (0) c13_0 (by decide) (by decide) (by decide) (by decide) ?_
    refine xw_aload_n C dX5_count_64 rfl 0 rfl ?_
    refine xw_get C in4 0 rfl rfl 0 (by decide) m80 rfl rfl dX5_count_65 ?_
    cases h
    rw [hZ]
    exact xw_iret C hr dX5_count_68
  obtain ⟨c13_0, h⟩ := q
  refine Or.elim (px_c h) (fun q => ?_) (fun q => ?_)
  · obtain ⟨c13_1, h⟩ := q
    refine xw_tabIn (off := 56) C 69 dX5_count_13 (1) c13_1 (by decide) (by decide) (by decide) (by decide) ?_
    refine xw_aload_n C dX5_count_69 rfl 0 rfl ?_
    refine xw_get C in4 0 rfl rfl 1 (by decide) m55 rfl rfl dX5_count_70 ?_
    obtain ⟨q73, eq73, h⟩ := px_b h
    refine xw_callVI (w' := w4 E o1 q1 u1 ad1 bd1 x1 y1 z1 ++ wF E o q u ad bd cd gg x y z ++ W) (u := (w4 E o1 q1 u1 ad1 bd1 x1 y1 z1 ++ wF E o q u ad bd cd gg x y z ++ W).take 1) (v := (w4 E o1 q1 u1 ad1 bd1 x1 y1 z1 ++ wF E o q u ad bd cd gg x y z ++ W).drop 7) C (ok_X3_keysHeld (o := q1) (ad := ad1) (x := y1) eq73) 0 gX5_count_X3_keysHeld rfl ⟨rfl, rfl⟩ (by decide +kernel) ⟨Nat.le_of_ble_eq_true rfl, Nat.le_of_ble_eq_true rfl⟩ 0 3 rfl rfl rfl (Nat.le_of_ble_eq_true rfl) ⟨Nat.zero_le _, Nat.zero_le _⟩ rfl rfl (by rfl) dX5_count_73 ?_
    cases h
    rw [hZ]
    exact xw_iret C hr dX5_count_76
  obtain ⟨c13_1, h⟩ := q
  refine Or.elim (px_c h) (fun q => ?_) (fun q => ?_)
  · obtain ⟨c13_2, h⟩ := q
    refine xw_tabIn (off := 64) C 77 dX5_count_13 (2) c13_2 (by decide) (by decide) (by decide) (by decide) ?_
    refine xw_aload_n C dX5_count_77 rfl 0 rfl ?_
    refine xw_get C in4 0 rfl rfl 1 (by decide) m55 rfl rfl dX5_count_78 ?_
    refine xw_get C in3 1 rfl rfl 5 (by decide) m130 rfl rfl dX5_count_81 ?_
    cases h
    rw [hZ]
    exact xw_iret C hr dX5_count_84
  obtain ⟨c13_2, h⟩ := q
  refine Or.elim (px_c h) (fun q => ?_) (fun q => ?_)
  · obtain ⟨c13_3, h⟩ := q
    refine xw_tabIn (off := 72) C 85 dX5_count_13 (3) c13_3 (by decide) (by decide) (by decide) (by decide) ?_
    refine xw_aload_n C dX5_count_85 rfl 0 rfl ?_
    refine xw_get C in4 0 rfl rfl 1 (by decide) m55 rfl rfl dX5_count_86 ?_
    obtain ⟨q89, eq89, h⟩ := px_b h
    refine xw_callVI (w' := w4 E o1 q1 u1 ad1 bd1 x1 y1 z1 ++ wF E o q u ad bd cd gg x y z ++ W) (u := (w4 E o1 q1 u1 ad1 bd1 x1 y1 z1 ++ wF E o q u ad bd cd gg x y z ++ W).take 1) (v := (w4 E o1 q1 u1 ad1 bd1 x1 y1 z1 ++ wF E o q u ad bd cd gg x y z ++ W).drop 7) C (ok_X3_greatestDepth (o := q1) (ad := ad1) (x := y1) eq89) 0 gX5_count_X3_greatestDepth rfl ⟨rfl, rfl⟩ (by decide +kernel) ⟨Nat.le_of_ble_eq_true rfl, Nat.le_of_ble_eq_true rfl⟩ 0 3 rfl rfl rfl (Nat.le_of_ble_eq_true rfl) ⟨Nat.zero_le _, Nat.zero_le _⟩ rfl rfl (by rfl) dX5_count_89 ?_
    cases h
    rw [hZ]
    exact xw_iret C hr dX5_count_92
  obtain ⟨c13_3, h⟩ := q
  refine Or.elim (px_c h) (fun q => ?_) (fun q => ?_)
  · obtain ⟨c13_4, h⟩ := q
    refine xw_tabIn (off := 80) C 93 dX5_count_13 (4) c13_4 (by decide) (by decide) (by decide) (by decide) ?_
    refine xw_aload_n C dX5_count_93 rfl 0 rfl ?_
    refine xw_get C in4 0 rfl rfl 1 (by decide) m55 rfl rfl dX5_count_94 ?_
    refine xw_get C in3 1 rfl rfl 6 (by decide) m136 rfl rfl dX5_count_97 ?_
    cases h
    rw [hZ]
    exact xw_iret C hr dX5_count_100
  obtain ⟨c13_4, h⟩ := q
  refine Or.elim (px_c h) (fun q => ?_) (fun q => ?_)
  · obtain ⟨c13_5, h⟩ := q
    refine xw_tabIn (off := 88) C 101 dX5_count_13 (5) c13_5 (by decide) (by decide) (by decide) (by decide) ?_
    refine xw_aload_n C dX5_count_101 rfl 0 rfl ?_
    refine xw_get C in4 0 rfl rfl 3 (by decide) m139 rfl rfl dX5_count_102 ?_
    cases h
    rw [hZ]
    exact xw_iret C hr dX5_count_105
  obtain ⟨c13_5, h⟩ := q
  refine Or.elim (px_c h) (fun q => ?_) (fun q => ?_)
  · obtain ⟨c13_6, h⟩ := q
    refine xw_tabIn (off := 93) C 106 dX5_count_13 (6) c13_6 (by decide) (by decide) (by decide) (by decide) ?_
    refine xw_aload_n C dX5_count_106 rfl 0 rfl ?_
    refine xw_get C in4 0 rfl rfl 2 (by decide) m98 rfl rfl dX5_count_107 ?_
    refine xw_get C in2 7 rfl rfl 1 (by decide) m142 rfl rfl dX5_count_110 ?_
    cases h
    rw [hZ]
    exact xw_iret C hr dX5_count_113
  obtain ⟨c13_6, h⟩ := q
  refine Or.elim (px_c h) (fun q => ?_) (fun q => ?_)
  · obtain ⟨c13_7, h⟩ := q
    refine xw_tabIn (off := 101) C 114 dX5_count_13 (7) c13_7 (by decide) (by decide) (by decide) (by decide) ?_
    refine xw_aload_n C dX5_count_114 rfl 0 rfl ?_
    refine xw_get C in4 0 rfl rfl 1 (by decide) m55 rfl rfl dX5_count_115 ?_
    obtain ⟨q118, eq118, h⟩ := px_b h
    refine xw_callVI (w' := w4 E o1 q1 u1 ad1 bd1 x1 y1 z1 ++ wF E o q u ad bd cd gg x y z ++ W) (u := (w4 E o1 q1 u1 ad1 bd1 x1 y1 z1 ++ wF E o q u ad bd cd gg x y z ++ W).take 1) (v := (w4 E o1 q1 u1 ad1 bd1 x1 y1 z1 ++ wF E o q u ad bd cd gg x y z ++ W).drop 7) C (ok_X3_potential (o := q1) (ad := ad1) (x := y1) eq118) 0 gX5_count_X3_potential rfl ⟨rfl, rfl⟩ (by decide +kernel) ⟨Nat.le_of_ble_eq_true rfl, Nat.le_of_ble_eq_true rfl⟩ 0 3 rfl rfl rfl (Nat.le_of_ble_eq_true rfl) ⟨Nat.zero_le _, Nat.zero_le _⟩ rfl rfl (by rfl) dX5_count_118 ?_
    cases h
    rw [hZ]
    exact xw_iret C hr dX5_count_121
  obtain ⟨c13_7, h⟩ := q
  refine Or.elim (px_c h) (fun q => ?_) (fun q => ?_)
  · obtain ⟨c13_8, h⟩ := q
    refine xw_tabIn (off := 109) C 122 dX5_count_13 (8) c13_8 (by decide) (by decide) (by decide) (by decide) ?_
    refine xw_aload_n C dX5_count_122 rfl 0 rfl ?_
    refine xw_get C in4 0 rfl rfl 4 (by decide) m148 rfl rfl dX5_count_123 ?_
    cases h
    rw [hZ]
    exact xw_iret C hr dX5_count_126
  obtain ⟨c13_8, h⟩ := q
  refine xw_tabOut C 127 dX5_count_13 (by have t0 := xt_ne (k := 0) c13_0 (by decide); have t1 := xt_ne (k := 1) c13_1 (by decide); have t2 := xt_ne (k := 2) c13_2 (by decide); have t3 := xt_ne (k := 3) c13_3 (by decide); have t4 := xt_ne (k := 4) c13_4 (by decide); have t5 := xt_ne (k := 5) c13_5 (by decide); have t6 := xt_ne (k := 6) c13_6 (by decide); have t7 := xt_ne (k := 7) c13_7 (by decide); have t8 := xt_ne (k := 8) c13_8 (by decide); omega) (by decide) ?_
  refine xw_iconst C (-1) dX5_count_127 (by decide) ?_
  cases h
  rw [hZ]
  exact xw_iret C hr dX5_count_128
def fX5_best_N (p1 : Int32) (p2 : Int32) : Option (Int32) :=
  some (-1)
abbrev rmX5_best_N : Room := { frames := 1, cells := 0, slots := 0, locals := 21 }
set_option maxHeartbeats 4000000 in
set_option maxRecDepth 100000 in
theorem ok_X5_best_N {l : Launch} {E : En} {o : Nat} {q : Nat} {u : Nat} {ad : (Nat → Nat)} {bd : (Nat → Nat)} {cd : (Nat → Nat)} {gg : (Nat → Option Nat)} {W : va_W} {p1 : Int32} {p2 : Int32} {x : Ob} {y : Ob} {z : Ob} {r : Int32} (ht3 : tref gg p1 = none) (hf : fX5_best_N p1 p2 = some r) : CI l yX5_best wsX5_best (rmX5_best_N) [.ref o, .int p1, .int p2] E (wF E o q u ad bd cd gg x y z ++ W) (wF E o q u ad bd cd gg x y z ++ W) (r) := by
  refine xc_I (by decide) rfl (Nat.le_of_ble_eq_true rfl) [(0, .ref o), (1, .int p1), (2, .int p2)] rfl (fun p e s m below meth c A C hr => ?_)
  generalize ([.ref o, .int p1, .int p2] : List Value).toArray = args at C ⊢
  obtain ⟨Z, hZ⟩ : ∃ Z, Z = ZI E (wF E o q u ad bd cd gg x y z ++ W) (r) A below args s 0 0 := ⟨_, rfl⟩
  rw [← hZ]
  rw [fX5_best_N] at hf
  have h := hf
  refine xw_aload_n C dX5_best_0 rfl 0 rfl ?_
  refine xw_iload_n C dX5_best_1 rfl 1 rfl ?_
  refine xw_callVQ (w' := wF E o q u ad bd cd gg x y z ++ W) (u := (wF E o q u ad bd cd gg x y z ++ W).take 0) (v := (wF E o q u ad bd cd gg x y z ++ W).drop 4) C (ok_X5_treeOf (o := o) (q := q) (u := u) (ad := ad) (g := gg) (x := x)) 1 gX5_best_X5_treeOf rfl ⟨rfl, rfl⟩ (by decide +kernel) ⟨Nat.le_of_ble_eq_true rfl, Nat.le_of_ble_eq_true rfl⟩ 0 5 rfl rfl rfl (Nat.le_of_ble_eq_true rfl) ⟨Nat.zero_le _, Nat.zero_le _⟩ rfl rfl rfl dX5_best_2 (.null) (by rw [ht3]; rfl) ?_
  refine xw_astore_nN C dX5_best_5 rfl (by decide) (lv' := [(3, .null), (0, .ref o), (1, .int p1), (2, .int p2)]) rfl ?_
  refine xw_aload_nN C dX5_best_6 rfl 0 rfl ?_
  refine xw_ifnull_n C 19 dX5_best_7 (by decide) ?_
  refine xw_iconst C (-1) dX5_best_19 (by decide) ?_
  cases h
  rw [hZ]
  exact xw_iret C hr dX5_best_20
def fX5_best_T (p1 : Int32) (p2 : Int32) (y1 : Ob) (z1 : Ob) (z : Ob) : Option (Int32 × Ob) :=
  (if p2 < 0 then
    some ((-1), z)
  else
    (if p2 ≤ (1) then
      Option.bind (fX0_workOut y1 z z1) (fun q33 =>
      (if p2 = 0 then
        some ((q33.1 5), q33)
      else
        some ((q33.1 6), q33)))
    else
      some ((-1), z)))
abbrev rmX5_best_T : Room := { frames := 5, cells := 0, slots := 0, locals := 122 }
set_option maxHeartbeats 4000000 in
set_option maxRecDepth 100000 in
theorem ok_X5_best_T {l : Launch} {E : En} {o1 : Nat} {q1 : Nat} {u1 : Nat} {ad1 : (Nat → Nat)} {bd1 : (Nat → Nat)} {o : Nat} {q : Nat} {u : Nat} {ad : (Nat → Nat)} {bd : (Nat → Nat)} {cd : (Nat → Nat)} {gg : (Nat → Option Nat)} {W : va_W} {p1 : Int32} {p2 : Int32} {x1 : Ob} {y1 : Ob} {z1 : Ob} {x : Ob} {y : Ob} {z : Ob} {r : Int32 × Ob} (ht3 : tref gg p1 = some o1) (hf : fX5_best_T p1 p2 y1 z1 z = some r) : CI l yX5_best wsX5_best (rmX5_best_T) [.ref o, .int p1, .int p2] E (w4 E o1 q1 u1 ad1 bd1 x1 y1 z1 ++ wF E o q u ad bd cd gg x y z ++ W) (w4 E o1 q1 u1 ad1 bd1 x1 y1 z1 ++ wF E o q u ad bd cd gg x y r.2 ++ W) (r.1) := by
  refine xc_I (by decide) rfl (Nat.le_of_ble_eq_true rfl) [(0, .ref o), (1, .int p1), (2, .int p2)] rfl (fun p e s m below meth c A C hr => ?_)
  generalize ([.ref o, .int p1, .int p2] : List Value).toArray = args at C ⊢
  obtain ⟨Z, hZ⟩ : ∃ Z, Z = ZI E (w4 E o1 q1 u1 ad1 bd1 x1 y1 z1 ++ wF E o q u ad bd cd gg x y r.2 ++ W) (r.1) A below args s 0 0 := ⟨_, rfl⟩
  rw [← hZ]
  have in0 : ∀ w ∈ wsX00, w ∈ wsX5_best := by decide +kernel
  have in4 : ∀ w ∈ wsX40, w ∈ wsX5_best := by decide +kernel
  have in5 : ∀ w ∈ wsX50, w ∈ wsX5_best := by decide +kernel
  have m39 : Cond.fieldLink RX5 39 "TurningTrees" "bestStill" "LTurningTrees$BestStill;" ∈ wsX5_best := by decide +kernel
  have m55 : Cond.fieldLink RX5 55 "TurningTrees$Tree" "shape" "LTurningTrees$Shape;" ∈ wsX5_best := by decide +kernel
  have m98 : Cond.fieldLink RX5 98 "TurningTrees$Tree" "row" "LTurningTrees$Row;" ∈ wsX5_best := by decide +kernel
  have m155 : Cond.fieldLink RX5 155 "TurningTrees$BestStill" "sum" "I" ∈ wsX5_best := by decide +kernel
  have m158 : Cond.fieldLink RX5 158 "TurningTrees$BestStill" "root" "I" ∈ wsX5_best := by decide +kernel
  rw [fX5_best_T] at hf
  have h := hf
  refine xw_aload_n C dX5_best_0 rfl 0 rfl ?_
  refine xw_iload_n C dX5_best_1 rfl 1 rfl ?_
  refine xw_callVQ (w' := w4 E o1 q1 u1 ad1 bd1 x1 y1 z1 ++ wF E o q u ad bd cd gg x y z ++ W) (u := (w4 E o1 q1 u1 ad1 bd1 x1 y1 z1 ++ wF E o q u ad bd cd gg x y z ++ W).take 9) (v := (w4 E o1 q1 u1 ad1 bd1 x1 y1 z1 ++ wF E o q u ad bd cd gg x y z ++ W).drop 13) C (ok_X5_treeOf (o := o) (q := q) (u := u) (ad := ad) (g := gg) (x := x)) 1 gX5_best_X5_treeOf rfl ⟨rfl, rfl⟩ (by decide +kernel) ⟨Nat.le_of_ble_eq_true rfl, Nat.le_of_ble_eq_true rfl⟩ 0 5 rfl rfl rfl (Nat.le_of_ble_eq_true rfl) ⟨Nat.zero_le _, Nat.zero_le _⟩ rfl rfl rfl dX5_best_2 (.ref o1) (by rw [ht3]; rfl) ?_
  refine xw_astore_n C dX5_best_5 rfl (by decide) (lv' := [(3, .ref o1), (0, .ref o), (1, .int p1), (2, .int p2)]) rfl ?_
  refine xw_aload_n C dX5_best_6 rfl 0 rfl ?_
  refine xw_ifnull_r C dX5_best_7 ?_
  refine xw_iload_n C dX5_best_10 rfl 3 rfl ?_
  refine xw_if_lt C 19 dX5_best_11 (by decide) (fun c11 => ?_) (fun c11 => ?_)
  · have h := px_t c11 h
    refine xw_iconst C (-1) dX5_best_19 (by decide) ?_
    cases h
    rw [hZ]
    exact xw_iret C hr dX5_best_20
  · have h := px_f c11 h
    refine xw_iload_n C dX5_best_14 rfl 3 rfl ?_
    refine xw_iconst C (1) dX5_best_15 (by decide) ?_
    refine xw_icmp_le C 21 dX5_best_16 (by decide) (fun c16 => ?_) (fun c16 => ?_)
    · have h := px_t c16 h
      refine xw_aload_n C dX5_best_21 rfl 1 rfl ?_
      refine xw_get C in5 9 rfl rfl 6 (by decide) m39 rfl rfl dX5_best_22 ?_
      refine xw_aload_n C dX5_best_25 rfl 0 rfl ?_
      refine xw_get C in4 0 rfl rfl 1 (by decide) m55 rfl rfl dX5_best_26 ?_
      refine xw_aload_n C dX5_best_29 rfl 0 rfl ?_
      refine xw_get C in4 0 rfl rfl 2 (by decide) m98 rfl rfl dX5_best_30 ?_
      obtain ⟨q33, eq33, h⟩ := px_b h
      refine xw_worldP (w1 := w4 E o1 q1 u1 ad1 bd1 x1 y1 z1 ++ wF E o q u ad bd cd gg x y z) (w2 := w3 E q1 ad1 y1 ++ w0 E u cd z ++ w2 E u1 bd1 z1 ++ (([0, 9, 10, 11, 12, 13, 14] : List Nat).filterMap (fun i => (w4 E o1 q1 u1 ad1 bd1 x1 y1 z1 ++ wF E o q u ad bd cd gg x y z)[i]?))) (V := W) [1, 2, 3, 4, 5, 6, 15, 16, 17, 18, 19, 20, 7, 8, 0, 9, 10, 11, 12, 13, 14] rfl rfl rfl ?_
      refine xw_callVV (w' := (w3 E q1 ad1 y1 ++ w0 E u cd q33 ++ w2 E u1 bd1 z1 ++ (([0, 9, 10, 11, 12, 13, 14] : List Nat).filterMap (fun i => (w4 E o1 q1 u1 ad1 bd1 x1 y1 z1 ++ wF E o q u ad bd cd gg x y z)[i]?))) ++ W) (u := []) (v := (([0, 9, 10, 11, 12, 13, 14] : List Nat).filterMap (fun i => (w4 E o1 q1 u1 ad1 bd1 x1 y1 z1 ++ wF E o q u ad bd cd gg x y z)[i]?)) ++ W) C (ok_X0_workOut (o1 := q1) (ad1 := ad1) (o := u) (ad := cd) (o2 := u1) (ad2 := bd1) (x1 := y1) (x := z) (x2 := z1) eq33) 2 gX5_best_X0_workOut rfl ⟨rfl, rfl⟩ (by decide +kernel) ⟨Nat.le_of_ble_eq_true rfl, Nat.le_of_ble_eq_true rfl⟩ 6 0 rfl rfl rfl (Nat.le_of_ble_eq_true rfl) ⟨Nat.zero_le _, Nat.zero_le _⟩ rfl rfl rfl dX5_best_33 ?_
      refine xw_worldP (w1 := w3 E q1 ad1 y1 ++ w0 E u cd q33 ++ w2 E u1 bd1 z1 ++ (([0, 9, 10, 11, 12, 13, 14] : List Nat).filterMap (fun i => (w4 E o1 q1 u1 ad1 bd1 x1 y1 z1 ++ wF E o q u ad bd cd gg x y z)[i]?))) (w2 := w4 E o1 q1 u1 ad1 bd1 x1 y1 z1 ++ wF E o q u ad bd cd gg x y q33) (V := W) [14, 0, 1, 2, 3, 4, 5, 12, 13, 15, 16, 17, 18, 19, 20, 6, 7, 8, 9, 10, 11] rfl (by rfl) (by rfl) ?_
      refine xw_iload_n C dX5_best_36 rfl 3 rfl ?_
      refine xw_if_ne C 50 dX5_best_37 (by decide) (fun c37 => ?_) (fun c37 => ?_)
      · have h := px_f c37 h
        refine xw_aload_n C dX5_best_50 rfl 1 rfl ?_
        refine xw_get C in5 9 rfl rfl 6 (by decide) m39 rfl rfl dX5_best_51 ?_
        refine xw_get C in0 15 rfl rfl 6 (by decide) m158 rfl rfl dX5_best_54 ?_
        cases h
        rw [hZ]
        exact xw_iret C hr dX5_best_57
      · have h := px_t c37 h
        refine xw_aload_n C dX5_best_40 rfl 1 rfl ?_
        refine xw_get C in5 9 rfl rfl 6 (by decide) m39 rfl rfl dX5_best_41 ?_
        refine xw_get C in0 15 rfl rfl 5 (by decide) m155 rfl rfl dX5_best_44 ?_
        refine xw_goto C 57 dX5_best_47 (by decide) ?_
        cases h
        rw [hZ]
        exact xw_iret C hr dX5_best_57
    · have h := px_f c16 h
      refine xw_iconst C (-1) dX5_best_19 (by decide) ?_
      cases h
      rw [hZ]
      exact xw_iret C hr dX5_best_20
def fX5_interleave_N (p1 : Int32) : Option (Int32) :=
  some (-1)
abbrev rmX5_interleave_N : Room := { frames := 1, cells := 0, slots := 0, locals := 21 }
set_option maxHeartbeats 4000000 in
set_option maxRecDepth 100000 in
theorem ok_X5_interleave_N {l : Launch} {E : En} {o : Nat} {q : Nat} {u : Nat} {ad : (Nat → Nat)} {bd : (Nat → Nat)} {cd : (Nat → Nat)} {gg : (Nat → Option Nat)} {W : va_W} {p1 : Int32} {x : Ob} {y : Ob} {z : Ob} {r : Int32} (ht2 : tref gg p1 = none) (hf : fX5_interleave_N p1 = some r) : CI l yX5_interleave wsX5_interleave (rmX5_interleave_N) [.ref o, .int p1] E (wF E o q u ad bd cd gg x y z ++ W) (wF E o q u ad bd cd gg x y z ++ W) (r) := by
  refine xc_I (by decide) rfl (Nat.le_of_ble_eq_true rfl) [(0, .ref o), (1, .int p1)] rfl (fun p e s m below meth c A C hr => ?_)
  generalize ([.ref o, .int p1] : List Value).toArray = args at C ⊢
  obtain ⟨Z, hZ⟩ : ∃ Z, Z = ZI E (wF E o q u ad bd cd gg x y z ++ W) (r) A below args s 0 0 := ⟨_, rfl⟩
  rw [← hZ]
  rw [fX5_interleave_N] at hf
  have h := hf
  refine xw_aload_n C dX5_interleave_0 rfl 0 rfl ?_
  refine xw_iload_n C dX5_interleave_1 rfl 1 rfl ?_
  refine xw_callVQ (w' := wF E o q u ad bd cd gg x y z ++ W) (u := (wF E o q u ad bd cd gg x y z ++ W).take 0) (v := (wF E o q u ad bd cd gg x y z ++ W).drop 4) C (ok_X5_treeOf (o := o) (q := q) (u := u) (ad := ad) (g := gg) (x := x)) 1 gX5_interleave_X5_treeOf rfl ⟨rfl, rfl⟩ (by decide +kernel) ⟨Nat.le_of_ble_eq_true rfl, Nat.le_of_ble_eq_true rfl⟩ 0 5 rfl rfl rfl (Nat.le_of_ble_eq_true rfl) ⟨Nat.zero_le _, Nat.zero_le _⟩ rfl rfl rfl dX5_interleave_2 (.null) (by rw [ht2]; rfl) ?_
  refine xw_astore_nN C dX5_interleave_5 rfl (by decide) (lv' := [(2, .null), (0, .ref o), (1, .int p1)]) rfl ?_
  refine xw_aload_nN C dX5_interleave_6 rfl 0 rfl ?_
  refine xw_ifnonnull_n C dX5_interleave_7 ?_
  refine xw_iconst C (-1) dX5_interleave_10 (by decide) ?_
  refine xw_goto C 25 dX5_interleave_11 (by decide) ?_
  cases h
  rw [hZ]
  exact xw_iret C hr dX5_interleave_25
def fX5_interleave_T (p1 : Int32) (z1 : Ob) (x : Ob) : Option (Int32 × Ob) :=
  Option.bind (fX2_changesOfHalf 64 z1 (x.2 4)) (fun q22 =>
  px_let (ob_f x 4 q22.2) (fun x_22 =>
  some (q22.1, x_22)))
abbrev rmX5_interleave_T : Room := { frames := 4, cells := 0, slots := 0, locals := 92 }
set_option maxHeartbeats 4000000 in
set_option maxRecDepth 100000 in
theorem ok_X5_interleave_T {l : Launch} {E : En} {o1 : Nat} {q1 : Nat} {u1 : Nat} {ad1 : (Nat → Nat)} {bd1 : (Nat → Nat)} {o : Nat} {q : Nat} {u : Nat} {ad : (Nat → Nat)} {bd : (Nat → Nat)} {cd : (Nat → Nat)} {gg : (Nat → Option Nat)} {W : va_W} {p1 : Int32} {x1 : Ob} {y1 : Ob} {z1 : Ob} {x : Ob} {y : Ob} {z : Ob} {r : Int32 × Ob} (ht2 : tref gg p1 = some o1) (hf : fX5_interleave_T p1 z1 x = some r) : CI l yX5_interleave wsX5_interleave (rmX5_interleave_T) [.ref o, .int p1] E (w4 E o1 q1 u1 ad1 bd1 x1 y1 z1 ++ wF E o q u ad bd cd gg x y z ++ W) (w4 E o1 q1 u1 ad1 bd1 x1 y1 z1 ++ wF E o q u ad bd cd gg r.2 y z ++ W) (r.1) := by
  refine xc_I (by decide) rfl (Nat.le_of_ble_eq_true rfl) [(0, .ref o), (1, .int p1)] rfl (fun p e s m below meth c A C hr => ?_)
  generalize ([.ref o, .int p1] : List Value).toArray = args at C ⊢
  obtain ⟨Z, hZ⟩ : ∃ Z, Z = ZI E (w4 E o1 q1 u1 ad1 bd1 x1 y1 z1 ++ wF E o q u ad bd cd gg r.2 y z ++ W) (r.1) A below args s 0 0 := ⟨_, rfl⟩
  rw [← hZ]
  have in4 : ∀ w ∈ wsX40, w ∈ wsX5_interleave := by decide +kernel
  have in5 : ∀ w ∈ wsX50, w ∈ wsX5_interleave := by decide +kernel
  have m26 : Cond.fieldLink RX5 26 "TurningTrees" "marks" "[I" ∈ wsX5_interleave := by decide +kernel
  have m98 : Cond.fieldLink RX5 98 "TurningTrees$Tree" "row" "LTurningTrees$Row;" ∈ wsX5_interleave := by decide +kernel
  rw [fX5_interleave_T] at hf
  have h := hf
  refine xw_aload_n C dX5_interleave_0 rfl 0 rfl ?_
  refine xw_iload_n C dX5_interleave_1 rfl 1 rfl ?_
  refine xw_callVQ (w' := w4 E o1 q1 u1 ad1 bd1 x1 y1 z1 ++ wF E o q u ad bd cd gg x y z ++ W) (u := (w4 E o1 q1 u1 ad1 bd1 x1 y1 z1 ++ wF E o q u ad bd cd gg x y z ++ W).take 9) (v := (w4 E o1 q1 u1 ad1 bd1 x1 y1 z1 ++ wF E o q u ad bd cd gg x y z ++ W).drop 13) C (ok_X5_treeOf (o := o) (q := q) (u := u) (ad := ad) (g := gg) (x := x)) 1 gX5_interleave_X5_treeOf rfl ⟨rfl, rfl⟩ (by decide +kernel) ⟨Nat.le_of_ble_eq_true rfl, Nat.le_of_ble_eq_true rfl⟩ 0 5 rfl rfl rfl (Nat.le_of_ble_eq_true rfl) ⟨Nat.zero_le _, Nat.zero_le _⟩ rfl rfl rfl dX5_interleave_2 (.ref o1) (by rw [ht2]; rfl) ?_
  refine xw_astore_n C dX5_interleave_5 rfl (by decide) (lv' := [(2, .ref o1), (0, .ref o), (1, .int p1)]) rfl ?_
  refine xw_aload_n C dX5_interleave_6 rfl 0 rfl ?_
  refine xw_ifnonnull_r C 14 dX5_interleave_7 (by decide) ?_
  refine xw_aload_n C dX5_interleave_14 rfl 0 rfl ?_
  refine xw_get C in4 0 rfl rfl 2 (by decide) m98 rfl rfl dX5_interleave_15 ?_
  refine xw_aload_n C dX5_interleave_18 rfl 1 rfl ?_
  refine xw_get C in5 9 rfl rfl 4 (by decide) m26 rfl rfl dX5_interleave_19 ?_
  obtain ⟨q22, eq22, h⟩ := px_b h
  refine px_n h (fun x_22 ex_22 h => ?_)
  refine xw_worldP (w1 := w4 E o1 q1 u1 ad1 bd1 x1 y1 z1 ++ wF E o q u ad bd cd gg x y z) (w2 := w2 E u1 bd1 z1 ++ wA E (ad 4) 64 (x.2 4) ++ (([0, 1, 2, 3, 4, 5, 6, 9, 10, 11, 13, 14, 15, 16, 17, 18, 19, 20] : List Nat).filterMap (fun i => (w4 E o1 q1 u1 ad1 bd1 x1 y1 z1 ++ wF E o q u ad bd cd gg x y z)[i]?))) (V := W) [7, 8, 12, 0, 1, 2, 3, 4, 5, 6, 9, 10, 11, 13, 14, 15, 16, 17, 18, 19, 20] rfl rfl rfl ?_
  refine xw_callVI (w' := (w2 E u1 bd1 z1 ++ wA E (ad 4) 64 q22.2 ++ (([0, 1, 2, 3, 4, 5, 6, 9, 10, 11, 13, 14, 15, 16, 17, 18, 19, 20] : List Nat).filterMap (fun i => (w4 E o1 q1 u1 ad1 bd1 x1 y1 z1 ++ wF E o q u ad bd cd gg x y z)[i]?))) ++ W) (u := []) (v := (([0, 1, 2, 3, 4, 5, 6, 9, 10, 11, 13, 14, 15, 16, 17, 18, 19, 20] : List Nat).filterMap (fun i => (w4 E o1 q1 u1 ad1 bd1 x1 y1 z1 ++ wF E o q u ad bd cd gg x y z)[i]?)) ++ W) C (ok_X2_changesOfHalf (o := u1) (ad := bd1) (a1 := (ad 4)) (nn1 := 64) (x := z1) (f1 := (x.2 4)) eq22) 1 gX5_interleave_X2_changesOfHalf rfl ⟨rfl, rfl⟩ (by decide +kernel) ⟨Nat.le_of_ble_eq_true rfl, Nat.le_of_ble_eq_true rfl⟩ 0 2 rfl rfl rfl (Nat.le_of_ble_eq_true rfl) ⟨Nat.zero_le _, Nat.zero_le _⟩ rfl rfl rfl dX5_interleave_22 ?_
  refine xw_worldP (w1 := w2 E u1 bd1 z1 ++ wA E (ad 4) 64 q22.2 ++ (([0, 1, 2, 3, 4, 5, 6, 9, 10, 11, 13, 14, 15, 16, 17, 18, 19, 20] : List Nat).filterMap (fun i => (w4 E o1 q1 u1 ad1 bd1 x1 y1 z1 ++ wF E o q u ad bd cd gg x y z)[i]?))) (w2 := w4 E o1 q1 u1 ad1 bd1 x1 y1 z1 ++ wF E o q u ad bd cd gg x_22 y z) (V := W) [3, 4, 5, 6, 7, 8, 9, 0, 1, 10, 11, 12, 2, 13, 14, 15, 16, 17, 18, 19, 20] rfl (by rw [ex_22]; rfl) (by rw [ex_22]; rfl) ?_
  cases h
  rw [hZ]
  exact xw_iret C hr dX5_interleave_25
def fX5_sweep_N (p1 : Int32) : Option (Int32) :=
  some (-1)
abbrev rmX5_sweep_N : Room := { frames := 1, cells := 0, slots := 0, locals := 21 }
set_option maxHeartbeats 4000000 in
set_option maxRecDepth 100000 in
theorem ok_X5_sweep_N {l : Launch} {E : En} {o : Nat} {q : Nat} {u : Nat} {ad : (Nat → Nat)} {bd : (Nat → Nat)} {cd : (Nat → Nat)} {gg : (Nat → Option Nat)} {W : va_W} {p1 : Int32} {x : Ob} {y : Ob} {z : Ob} {r : Int32} (ht2 : tref gg p1 = none) (hf : fX5_sweep_N p1 = some r) : CI l yX5_sweep wsX5_sweep (rmX5_sweep_N) [.ref o, .int p1] E (wF E o q u ad bd cd gg x y z ++ W) (wF E o q u ad bd cd gg x y z ++ W) (r) := by
  refine xc_I (by decide) rfl (Nat.le_of_ble_eq_true rfl) [(0, .ref o), (1, .int p1)] rfl (fun p e s m below meth c A C hr => ?_)
  generalize ([.ref o, .int p1] : List Value).toArray = args at C ⊢
  obtain ⟨Z, hZ⟩ : ∃ Z, Z = ZI E (wF E o q u ad bd cd gg x y z ++ W) (r) A below args s 0 0 := ⟨_, rfl⟩
  rw [← hZ]
  rw [fX5_sweep_N] at hf
  have h := hf
  refine xw_aload_n C dX5_sweep_0 rfl 0 rfl ?_
  refine xw_iload_n C dX5_sweep_1 rfl 1 rfl ?_
  refine xw_callVQ (w' := wF E o q u ad bd cd gg x y z ++ W) (u := (wF E o q u ad bd cd gg x y z ++ W).take 0) (v := (wF E o q u ad bd cd gg x y z ++ W).drop 4) C (ok_X5_treeOf (o := o) (q := q) (u := u) (ad := ad) (g := gg) (x := x)) 1 gX5_sweep_X5_treeOf rfl ⟨rfl, rfl⟩ (by decide +kernel) ⟨Nat.le_of_ble_eq_true rfl, Nat.le_of_ble_eq_true rfl⟩ 0 5 rfl rfl rfl (Nat.le_of_ble_eq_true rfl) ⟨Nat.zero_le _, Nat.zero_le _⟩ rfl rfl rfl dX5_sweep_2 (.null) (by rw [ht2]; rfl) ?_
  refine xw_astore_nN C dX5_sweep_5 rfl (by decide) (lv' := [(2, .null), (0, .ref o), (1, .int p1)]) rfl ?_
  refine xw_aload_nN C dX5_sweep_6 rfl 0 rfl ?_
  refine xw_ifnonnull_n C dX5_sweep_7 ?_
  refine xw_iconst C (-1) dX5_sweep_10 (by decide) ?_
  refine xw_goto C 25 dX5_sweep_11 (by decide) ?_
  cases h
  rw [hZ]
  exact xw_iret C hr dX5_sweep_25
def fX5_sweep_T (p1 : Int32) (z1 : Ob) (x : Ob) : Option (Int32 × Ob) :=
  Option.bind (fX2_touches 64 z1 (x.2 4)) (fun q22 =>
  px_let (ob_f x 4 q22.2) (fun x_22 =>
  some (q22.1, x_22)))
abbrev rmX5_sweep_T : Room := { frames := 3, cells := 0, slots := 0, locals := 74 }
set_option maxHeartbeats 4000000 in
set_option maxRecDepth 100000 in
theorem ok_X5_sweep_T {l : Launch} {E : En} {o1 : Nat} {q1 : Nat} {u1 : Nat} {ad1 : (Nat → Nat)} {bd1 : (Nat → Nat)} {o : Nat} {q : Nat} {u : Nat} {ad : (Nat → Nat)} {bd : (Nat → Nat)} {cd : (Nat → Nat)} {gg : (Nat → Option Nat)} {W : va_W} {p1 : Int32} {x1 : Ob} {y1 : Ob} {z1 : Ob} {x : Ob} {y : Ob} {z : Ob} {r : Int32 × Ob} (ht2 : tref gg p1 = some o1) (hf : fX5_sweep_T p1 z1 x = some r) : CI l yX5_sweep wsX5_sweep (rmX5_sweep_T) [.ref o, .int p1] E (w4 E o1 q1 u1 ad1 bd1 x1 y1 z1 ++ wF E o q u ad bd cd gg x y z ++ W) (w4 E o1 q1 u1 ad1 bd1 x1 y1 z1 ++ wF E o q u ad bd cd gg r.2 y z ++ W) (r.1) := by
  refine xc_I (by decide) rfl (Nat.le_of_ble_eq_true rfl) [(0, .ref o), (1, .int p1)] rfl (fun p e s m below meth c A C hr => ?_)
  generalize ([.ref o, .int p1] : List Value).toArray = args at C ⊢
  obtain ⟨Z, hZ⟩ : ∃ Z, Z = ZI E (w4 E o1 q1 u1 ad1 bd1 x1 y1 z1 ++ wF E o q u ad bd cd gg r.2 y z ++ W) (r.1) A below args s 0 0 := ⟨_, rfl⟩
  rw [← hZ]
  have in4 : ∀ w ∈ wsX40, w ∈ wsX5_sweep := by decide +kernel
  have in5 : ∀ w ∈ wsX50, w ∈ wsX5_sweep := by decide +kernel
  have m26 : Cond.fieldLink RX5 26 "TurningTrees" "marks" "[I" ∈ wsX5_sweep := by decide +kernel
  have m98 : Cond.fieldLink RX5 98 "TurningTrees$Tree" "row" "LTurningTrees$Row;" ∈ wsX5_sweep := by decide +kernel
  rw [fX5_sweep_T] at hf
  have h := hf
  refine xw_aload_n C dX5_sweep_0 rfl 0 rfl ?_
  refine xw_iload_n C dX5_sweep_1 rfl 1 rfl ?_
  refine xw_callVQ (w' := w4 E o1 q1 u1 ad1 bd1 x1 y1 z1 ++ wF E o q u ad bd cd gg x y z ++ W) (u := (w4 E o1 q1 u1 ad1 bd1 x1 y1 z1 ++ wF E o q u ad bd cd gg x y z ++ W).take 9) (v := (w4 E o1 q1 u1 ad1 bd1 x1 y1 z1 ++ wF E o q u ad bd cd gg x y z ++ W).drop 13) C (ok_X5_treeOf (o := o) (q := q) (u := u) (ad := ad) (g := gg) (x := x)) 1 gX5_sweep_X5_treeOf rfl ⟨rfl, rfl⟩ (by decide +kernel) ⟨Nat.le_of_ble_eq_true rfl, Nat.le_of_ble_eq_true rfl⟩ 0 5 rfl rfl rfl (Nat.le_of_ble_eq_true rfl) ⟨Nat.zero_le _, Nat.zero_le _⟩ rfl rfl rfl dX5_sweep_2 (.ref o1) (by rw [ht2]; rfl) ?_
  refine xw_astore_n C dX5_sweep_5 rfl (by decide) (lv' := [(2, .ref o1), (0, .ref o), (1, .int p1)]) rfl ?_
  refine xw_aload_n C dX5_sweep_6 rfl 0 rfl ?_
  refine xw_ifnonnull_r C 14 dX5_sweep_7 (by decide) ?_
  refine xw_aload_n C dX5_sweep_14 rfl 0 rfl ?_
  refine xw_get C in4 0 rfl rfl 2 (by decide) m98 rfl rfl dX5_sweep_15 ?_
  refine xw_aload_n C dX5_sweep_18 rfl 1 rfl ?_
  refine xw_get C in5 9 rfl rfl 4 (by decide) m26 rfl rfl dX5_sweep_19 ?_
  obtain ⟨q22, eq22, h⟩ := px_b h
  refine px_n h (fun x_22 ex_22 h => ?_)
  refine xw_worldP (w1 := w4 E o1 q1 u1 ad1 bd1 x1 y1 z1 ++ wF E o q u ad bd cd gg x y z) (w2 := w2 E u1 bd1 z1 ++ wA E (ad 4) 64 (x.2 4) ++ (([0, 1, 2, 3, 4, 5, 6, 9, 10, 11, 13, 14, 15, 16, 17, 18, 19, 20] : List Nat).filterMap (fun i => (w4 E o1 q1 u1 ad1 bd1 x1 y1 z1 ++ wF E o q u ad bd cd gg x y z)[i]?))) (V := W) [7, 8, 12, 0, 1, 2, 3, 4, 5, 6, 9, 10, 11, 13, 14, 15, 16, 17, 18, 19, 20] rfl rfl rfl ?_
  refine xw_callVI (w' := (w2 E u1 bd1 z1 ++ wA E (ad 4) 64 q22.2 ++ (([0, 1, 2, 3, 4, 5, 6, 9, 10, 11, 13, 14, 15, 16, 17, 18, 19, 20] : List Nat).filterMap (fun i => (w4 E o1 q1 u1 ad1 bd1 x1 y1 z1 ++ wF E o q u ad bd cd gg x y z)[i]?))) ++ W) (u := []) (v := (([0, 1, 2, 3, 4, 5, 6, 9, 10, 11, 13, 14, 15, 16, 17, 18, 19, 20] : List Nat).filterMap (fun i => (w4 E o1 q1 u1 ad1 bd1 x1 y1 z1 ++ wF E o q u ad bd cd gg x y z)[i]?)) ++ W) C (ok_X2_touches (o := u1) (ad := bd1) (a1 := (ad 4)) (nn1 := 64) (x := z1) (f1 := (x.2 4)) eq22) 1 gX5_sweep_X2_touches rfl ⟨rfl, rfl⟩ (by decide +kernel) ⟨Nat.le_of_ble_eq_true rfl, Nat.le_of_ble_eq_true rfl⟩ 0 2 rfl rfl rfl (Nat.le_of_ble_eq_true rfl) ⟨Nat.zero_le _, Nat.zero_le _⟩ rfl rfl rfl dX5_sweep_22 ?_
  refine xw_worldP (w1 := w2 E u1 bd1 z1 ++ wA E (ad 4) 64 q22.2 ++ (([0, 1, 2, 3, 4, 5, 6, 9, 10, 11, 13, 14, 15, 16, 17, 18, 19, 20] : List Nat).filterMap (fun i => (w4 E o1 q1 u1 ad1 bd1 x1 y1 z1 ++ wF E o q u ad bd cd gg x y z)[i]?))) (w2 := w4 E o1 q1 u1 ad1 bd1 x1 y1 z1 ++ wF E o q u ad bd cd gg x_22 y z) (V := W) [3, 4, 5, 6, 7, 8, 9, 0, 1, 10, 11, 12, 2, 13, 14, 15, 16, 17, 18, 19, 20] rfl (by rw [ex_22]; rfl) (by rw [ex_22]; rfl) ?_
  cases h
  rw [hZ]
  exact xw_iret C hr dX5_sweep_25
def fX5_pages_N (p1 : Int32) (p2 : Int32) (p3 : Int32) : Option (Int32) :=
  some (-1)
abbrev rmX5_pages_N : Room := { frames := 1, cells := 0, slots := 0, locals := 21 }
set_option maxHeartbeats 4000000 in
set_option maxRecDepth 100000 in
theorem ok_X5_pages_N {l : Launch} {E : En} {o : Nat} {q : Nat} {u : Nat} {ad : (Nat → Nat)} {bd : (Nat → Nat)} {cd : (Nat → Nat)} {gg : (Nat → Option Nat)} {W : va_W} {p1 : Int32} {p2 : Int32} {p3 : Int32} {x : Ob} {y : Ob} {z : Ob} {r : Int32} (ht4 : tref gg p1 = none) (hf : fX5_pages_N p1 p2 p3 = some r) : CI l yX5_pages wsX5_pages (rmX5_pages_N) [.ref o, .int p1, .int p2, .int p3] E (wF E o q u ad bd cd gg x y z ++ W) (wF E o q u ad bd cd gg x y z ++ W) (r) := by
  refine xc_I (by decide) rfl (Nat.le_of_ble_eq_true rfl) [(0, .ref o), (1, .int p1), (2, .int p2), (3, .int p3)] rfl (fun p e s m below meth c A C hr => ?_)
  generalize ([.ref o, .int p1, .int p2, .int p3] : List Value).toArray = args at C ⊢
  obtain ⟨Z, hZ⟩ : ∃ Z, Z = ZI E (wF E o q u ad bd cd gg x y z ++ W) (r) A below args s 0 0 := ⟨_, rfl⟩
  rw [← hZ]
  rw [fX5_pages_N] at hf
  have h := hf
  refine xw_aload_n C dX5_pages_0 rfl 0 rfl ?_
  refine xw_iload_n C dX5_pages_1 rfl 1 rfl ?_
  refine xw_callVQ (w' := wF E o q u ad bd cd gg x y z ++ W) (u := (wF E o q u ad bd cd gg x y z ++ W).take 0) (v := (wF E o q u ad bd cd gg x y z ++ W).drop 4) C (ok_X5_treeOf (o := o) (q := q) (u := u) (ad := ad) (g := gg) (x := x)) 1 gX5_pages_X5_treeOf rfl ⟨rfl, rfl⟩ (by decide +kernel) ⟨Nat.le_of_ble_eq_true rfl, Nat.le_of_ble_eq_true rfl⟩ 0 5 rfl rfl rfl (Nat.le_of_ble_eq_true rfl) ⟨Nat.zero_le _, Nat.zero_le _⟩ rfl rfl rfl dX5_pages_2 (.null) (by rw [ht4]; rfl) ?_
  refine xw_astoreN C dX5_pages_5 (by decide) (lv' := [(4, .null), (0, .ref o), (1, .int p1), (2, .int p2), (3, .int p3)]) rfl ?_
  refine xw_aloadN C dX5_pages_7 0 rfl ?_
  refine xw_ifnull_n C 35 dX5_pages_9 (by decide) ?_
  refine xw_iconst C (-1) dX5_pages_35 (by decide) ?_
  cases h
  rw [hZ]
  exact xw_iret C hr dX5_pages_36
def fX5_pages_T (p1 : Int32) (p2 : Int32) (p3 : Int32) (y1 : Ob) (y : Ob) : Option (Int32 × Ob) :=
  (if p2 < (1) then
    some ((-1), y)
  else
    (if (16) < p2 then
      some ((-1), y)
    else
      Option.bind (fX3_holds p3 y1) (fun q29 =>
      (if q29 = 0 then
        some ((-1), y)
      else
        Option.bind (fX1_countOnWay p2 p3 y y1) (fun q48 =>
        some (q48.1, q48.2))))))
abbrev rmX5_pages_T : Room := { frames := 4, cells := 0, slots := 0, locals := 93 }
set_option maxHeartbeats 4000000 in
set_option maxRecDepth 100000 in
theorem ok_X5_pages_T {l : Launch} {E : En} {o1 : Nat} {q1 : Nat} {u1 : Nat} {ad1 : (Nat → Nat)} {bd1 : (Nat → Nat)} {o : Nat} {q : Nat} {u : Nat} {ad : (Nat → Nat)} {bd : (Nat → Nat)} {cd : (Nat → Nat)} {gg : (Nat → Option Nat)} {W : va_W} {p1 : Int32} {p2 : Int32} {p3 : Int32} {x1 : Ob} {y1 : Ob} {z1 : Ob} {x : Ob} {y : Ob} {z : Ob} {r : Int32 × Ob} (ht4 : tref gg p1 = some o1) (hf : fX5_pages_T p1 p2 p3 y1 y = some r) : CI l yX5_pages wsX5_pages (rmX5_pages_T) [.ref o, .int p1, .int p2, .int p3] E (w4 E o1 q1 u1 ad1 bd1 x1 y1 z1 ++ wF E o q u ad bd cd gg x y z ++ W) (w4 E o1 q1 u1 ad1 bd1 x1 y1 z1 ++ wF E o q u ad bd cd gg x r.2 z ++ W) (r.1) := by
  refine xc_I (by decide) rfl (Nat.le_of_ble_eq_true rfl) [(0, .ref o), (1, .int p1), (2, .int p2), (3, .int p3)] rfl (fun p e s m below meth c A C hr => ?_)
  generalize ([.ref o, .int p1, .int p2, .int p3] : List Value).toArray = args at C ⊢
  obtain ⟨Z, hZ⟩ : ∃ Z, Z = ZI E (w4 E o1 q1 u1 ad1 bd1 x1 y1 z1 ++ wF E o q u ad bd cd gg x r.2 z ++ W) (r.1) A below args s 0 0 := ⟨_, rfl⟩
  rw [← hZ]
  have in4 : ∀ w ∈ wsX40, w ∈ wsX5_pages := by decide +kernel
  have in5 : ∀ w ∈ wsX50, w ∈ wsX5_pages := by decide +kernel
  have m32 : Cond.fieldLink RX5 32 "TurningTrees" "page" "LTurningTrees$Page;" ∈ wsX5_pages := by decide +kernel
  have m55 : Cond.fieldLink RX5 55 "TurningTrees$Tree" "shape" "LTurningTrees$Shape;" ∈ wsX5_pages := by decide +kernel
  rw [fX5_pages_T] at hf
  have h := hf
  refine xw_aload_n C dX5_pages_0 rfl 0 rfl ?_
  refine xw_iload_n C dX5_pages_1 rfl 1 rfl ?_
  refine xw_callVQ (w' := w4 E o1 q1 u1 ad1 bd1 x1 y1 z1 ++ wF E o q u ad bd cd gg x y z ++ W) (u := (w4 E o1 q1 u1 ad1 bd1 x1 y1 z1 ++ wF E o q u ad bd cd gg x y z ++ W).take 9) (v := (w4 E o1 q1 u1 ad1 bd1 x1 y1 z1 ++ wF E o q u ad bd cd gg x y z ++ W).drop 13) C (ok_X5_treeOf (o := o) (q := q) (u := u) (ad := ad) (g := gg) (x := x)) 1 gX5_pages_X5_treeOf rfl ⟨rfl, rfl⟩ (by decide +kernel) ⟨Nat.le_of_ble_eq_true rfl, Nat.le_of_ble_eq_true rfl⟩ 0 5 rfl rfl rfl (Nat.le_of_ble_eq_true rfl) ⟨Nat.zero_le _, Nat.zero_le _⟩ rfl rfl rfl dX5_pages_2 (.ref o1) (by rw [ht4]; rfl) ?_
  refine xw_astore C dX5_pages_5 (by decide) (lv' := [(4, .ref o1), (0, .ref o), (1, .int p1), (2, .int p2), (3, .int p3)]) rfl ?_
  refine xw_aload C dX5_pages_7 0 rfl ?_
  refine xw_ifnull_r C dX5_pages_9 ?_
  refine xw_iload_n C dX5_pages_12 rfl 3 rfl ?_
  refine xw_iconst C (1) dX5_pages_13 (by decide) ?_
  refine xw_icmp_lt C 35 dX5_pages_14 (by decide) (fun c14 => ?_) (fun c14 => ?_)
  · have h := px_t c14 h
    refine xw_iconst C (-1) dX5_pages_35 (by decide) ?_
    cases h
    rw [hZ]
    exact xw_iret C hr dX5_pages_36
  · have h := px_f c14 h
    refine xw_iload_n C dX5_pages_17 rfl 3 rfl ?_
    refine xw_bipush C (16) dX5_pages_18 (by decide) ?_
    refine xw_icmp_gt C 35 dX5_pages_20 (by decide) (fun c20 => ?_) (fun c20 => ?_)
    · have h := px_t c20 h
      refine xw_iconst C (-1) dX5_pages_35 (by decide) ?_
      cases h
      rw [hZ]
      exact xw_iret C hr dX5_pages_36
    · have h := px_f c20 h
      refine xw_aload C dX5_pages_23 0 rfl ?_
      refine xw_get C in4 0 rfl rfl 1 (by decide) m55 rfl rfl dX5_pages_25 ?_
      refine xw_iload_n C dX5_pages_28 rfl 4 rfl ?_
      obtain ⟨q29, eq29, h⟩ := px_b h
      refine xw_callVI (w' := w4 E o1 q1 u1 ad1 bd1 x1 y1 z1 ++ wF E o q u ad bd cd gg x y z ++ W) (u := (w4 E o1 q1 u1 ad1 bd1 x1 y1 z1 ++ wF E o q u ad bd cd gg x y z ++ W).take 1) (v := (w4 E o1 q1 u1 ad1 bd1 x1 y1 z1 ++ wF E o q u ad bd cd gg x y z ++ W).drop 7) C (ok_X3_holds (o := q1) (ad := ad1) (x := y1) eq29) 1 gX5_pages_X3_holds rfl ⟨rfl, rfl⟩ (by decide +kernel) ⟨Nat.le_of_ble_eq_true rfl, Nat.le_of_ble_eq_true rfl⟩ 0 3 rfl rfl rfl (Nat.le_of_ble_eq_true rfl) ⟨Nat.zero_le _, Nat.zero_le _⟩ rfl rfl (by rfl) dX5_pages_29 ?_
      refine xw_if_ne C 37 dX5_pages_32 (by decide) (fun c32 => ?_) (fun c32 => ?_)
      · have h := px_f c32 h
        refine xw_aload_n C dX5_pages_37 rfl 1 rfl ?_
        refine xw_get C in5 9 rfl rfl 5 (by decide) m32 rfl rfl dX5_pages_38 ?_
        refine xw_aload C dX5_pages_41 0 rfl ?_
        refine xw_get C in4 0 rfl rfl 1 (by decide) m55 rfl rfl dX5_pages_43 ?_
        refine xw_iload_n C dX5_pages_46 rfl 3 rfl ?_
        refine xw_iload_n C dX5_pages_47 rfl 4 rfl ?_
        obtain ⟨q48, eq48, h⟩ := px_b h
        refine xw_worldP (w1 := w4 E o1 q1 u1 ad1 bd1 x1 y1 z1 ++ wF E o q u ad bd cd gg x y z) (w2 := w1 E q bd y ++ w3 E q1 ad1 y1 ++ (([0, 7, 8, 9, 10, 11, 12, 15, 16, 17, 18, 19, 20] : List Nat).filterMap (fun i => (w4 E o1 q1 u1 ad1 bd1 x1 y1 z1 ++ wF E o q u ad bd cd gg x y z)[i]?))) (V := W) [13, 14, 1, 2, 3, 4, 5, 6, 0, 7, 8, 9, 10, 11, 12, 15, 16, 17, 18, 19, 20] rfl rfl rfl ?_
        refine xw_callVI (w' := (w1 E q bd q48.2 ++ w3 E q1 ad1 y1 ++ (([0, 7, 8, 9, 10, 11, 12, 15, 16, 17, 18, 19, 20] : List Nat).filterMap (fun i => (w4 E o1 q1 u1 ad1 bd1 x1 y1 z1 ++ wF E o q u ad bd cd gg x y z)[i]?))) ++ W) (u := []) (v := (([0, 7, 8, 9, 10, 11, 12, 15, 16, 17, 18, 19, 20] : List Nat).filterMap (fun i => (w4 E o1 q1 u1 ad1 bd1 x1 y1 z1 ++ wF E o q u ad bd cd gg x y z)[i]?)) ++ W) C (ok_X1_countOnWay (o := q) (ad := bd) (o1 := q1) (ad1 := ad1) (x := y) (x1 := y1) eq48) 3 gX5_pages_X1_countOnWay rfl ⟨rfl, rfl⟩ (by decide +kernel) ⟨Nat.le_of_ble_eq_true rfl, Nat.le_of_ble_eq_true rfl⟩ 0 1 rfl rfl rfl (Nat.le_of_ble_eq_true rfl) ⟨Nat.zero_le _, Nat.zero_le _⟩ rfl rfl rfl dX5_pages_48 ?_
        refine xw_worldP (w1 := w1 E q bd q48.2 ++ w3 E q1 ad1 y1 ++ (([0, 7, 8, 9, 10, 11, 12, 15, 16, 17, 18, 19, 20] : List Nat).filterMap (fun i => (w4 E o1 q1 u1 ad1 bd1 x1 y1 z1 ++ wF E o q u ad bd cd gg x y z)[i]?))) (w2 := w4 E o1 q1 u1 ad1 bd1 x1 y1 z1 ++ wF E o q u ad bd cd gg x q48.2 z) (V := W) [8, 2, 3, 4, 5, 6, 7, 9, 10, 11, 12, 13, 14, 0, 1, 15, 16, 17, 18, 19, 20] rfl (by rfl) (by rfl) ?_
        cases h
        rw [hZ]
        exact xw_iret C hr dX5_pages_51
      · have h := px_t c32 h
        refine xw_iconst C (-1) dX5_pages_35 (by decide) ?_
        cases h
        rw [hZ]
        exact xw_iret C hr dX5_pages_36
def fX5_keep_N (p1 : Int32) : Option (Int32) :=
  some (-1)
abbrev rmX5_keep_N : Room := { frames := 1, cells := 0, slots := 0, locals := 21 }
set_option maxHeartbeats 4000000 in
set_option maxRecDepth 100000 in
theorem ok_X5_keep_N {l : Launch} {E : En} {o : Nat} {q : Nat} {u : Nat} {ad : (Nat → Nat)} {bd : (Nat → Nat)} {cd : (Nat → Nat)} {gg : (Nat → Option Nat)} {W : va_W} {p1 : Int32} {x : Ob} {y : Ob} {z : Ob} {r : Int32} (ht2 : tref gg p1 = none) (hf : fX5_keep_N p1 = some r) : CI l yX5_keep wsX5_keep (rmX5_keep_N) [.ref o, .int p1] E (wF E o q u ad bd cd gg x y z ++ W) (wF E o q u ad bd cd gg x y z ++ W) (r) := by
  refine xc_I (by decide) rfl (Nat.le_of_ble_eq_true rfl) [(0, .ref o), (1, .int p1)] rfl (fun p e s m below meth c A C hr => ?_)
  generalize ([.ref o, .int p1] : List Value).toArray = args at C ⊢
  obtain ⟨Z, hZ⟩ : ∃ Z, Z = ZI E (wF E o q u ad bd cd gg x y z ++ W) (r) A below args s 0 0 := ⟨_, rfl⟩
  rw [← hZ]
  rw [fX5_keep_N] at hf
  have h := hf
  refine xw_aload_n C dX5_keep_0 rfl 0 rfl ?_
  refine xw_iload_n C dX5_keep_1 rfl 1 rfl ?_
  refine xw_callVQ (w' := wF E o q u ad bd cd gg x y z ++ W) (u := (wF E o q u ad bd cd gg x y z ++ W).take 0) (v := (wF E o q u ad bd cd gg x y z ++ W).drop 4) C (ok_X5_treeOf (o := o) (q := q) (u := u) (ad := ad) (g := gg) (x := x)) 1 gX5_keep_X5_treeOf rfl ⟨rfl, rfl⟩ (by decide +kernel) ⟨Nat.le_of_ble_eq_true rfl, Nat.le_of_ble_eq_true rfl⟩ 0 5 rfl rfl rfl (Nat.le_of_ble_eq_true rfl) ⟨Nat.zero_le _, Nat.zero_le _⟩ rfl rfl rfl dX5_keep_2 (.null) (by rw [ht2]; rfl) ?_
  refine xw_astore_nN C dX5_keep_5 rfl (by decide) (lv' := [(2, .null), (0, .ref o), (1, .int p1)]) rfl ?_
  refine xw_aload_nN C dX5_keep_6 rfl 0 rfl ?_
  refine xw_ifnull_n C 19 dX5_keep_7 (by decide) ?_
  refine xw_iconst C (-1) dX5_keep_19 (by decide) ?_
  cases h
  rw [hZ]
  exact xw_iret C hr dX5_keep_20
def fX5_keep_T_J59 (y1 : Ob) (x : Ob) : Option (Int32 × Ob) :=
  px_let (ob_i x 3 ((x.1 3) + (1))) (fun x_66 =>
  some (((x_66.1 3) - (1)), x_66))
def fX5_keep_T_L23 : Nat → Int32 → Ob → Ob → Option (Int32 × Ob)
  | 0, _, _, _ => none
  | n + 1, v3, y1, x =>
  (if (64) ≤ v3 then
    fX5_keep_T_J59 y1 x
  else
    Option.bind (fX3_depthOf v3 y1) (fun q47 =>
    Option.bind (fX5_put 1280 (((x.1 3) * (64)) + v3) q47 (x.2 2)) (fun q50 =>
    px_let (ob_f x 2 q50) (fun x_50 =>
    px_let (v3 + (1) : Int32) (fun b53 =>
    fX5_keep_T_L23 n b53 y1 x_50)))))
def fX5_keep_T (p1 : Int32) (y1 : Ob) (x : Ob) : Option (Int32 × Ob) :=
  (if (x.1 3) < (20) then
    fX5_keep_T_L23 FU (0) y1 x
  else
    some ((-1), x))
abbrev rmX5_keep_T : Room := { frames := 3, cells := 0, slots := 0, locals := 65 }
set_option maxHeartbeats 4000000 in
set_option maxRecDepth 100000 in
theorem ok_X5_keep_T {l : Launch} {E : En} {o1 : Nat} {q1 : Nat} {u1 : Nat} {ad1 : (Nat → Nat)} {bd1 : (Nat → Nat)} {o : Nat} {q : Nat} {u : Nat} {ad : (Nat → Nat)} {bd : (Nat → Nat)} {cd : (Nat → Nat)} {gg : (Nat → Option Nat)} {W : va_W} {p1 : Int32} {x1 : Ob} {y1 : Ob} {z1 : Ob} {x : Ob} {y : Ob} {z : Ob} {r : Int32 × Ob} (ht2 : tref gg p1 = some o1) (hf : fX5_keep_T p1 y1 x = some r) : CI l yX5_keep wsX5_keep (rmX5_keep_T) [.ref o, .int p1] E (w4 E o1 q1 u1 ad1 bd1 x1 y1 z1 ++ wF E o q u ad bd cd gg x y z ++ W) (w4 E o1 q1 u1 ad1 bd1 x1 y1 z1 ++ wF E o q u ad bd cd gg r.2 y z ++ W) (r.1) := by
  refine xc_I (by decide) rfl (Nat.le_of_ble_eq_true rfl) [(0, .ref o), (1, .int p1)] rfl (fun p e s m below meth c A C hr => ?_)
  generalize ([.ref o, .int p1] : List Value).toArray = args at C ⊢
  obtain ⟨Z, hZ⟩ : ∃ Z, Z = ZI E (w4 E o1 q1 u1 ad1 bd1 x1 y1 z1 ++ wF E o q u ad bd cd gg r.2 y z ++ W) (r.1) A below args s 0 0 := ⟨_, rfl⟩
  rw [← hZ]
  have in4 : ∀ w ∈ wsX40, w ∈ wsX5_keep := by decide +kernel
  have in5 : ∀ w ∈ wsX50, w ∈ wsX5_keep := by decide +kernel
  have m19 : Cond.fieldLink RX5 19 "TurningTrees" "keptDepths" "[I" ∈ wsX5_keep := by decide +kernel
  have m23 : Cond.fieldLink RX5 23 "TurningTrees" "keptMade" "I" ∈ wsX5_keep := by decide +kernel
  have m55 : Cond.fieldLink RX5 55 "TurningTrees$Tree" "shape" "LTurningTrees$Shape;" ∈ wsX5_keep := by decide +kernel
  have hJ59 : ∀ (x : Ob), fX5_keep_T_J59 y1 x = some r → XW E p l e rmX5_keep_T s m args below meth c Z A 0 0 (w4 E o1 q1 u1 ad1 bd1 x1 y1 z1 ++ wF E o q u ad bd cd gg x y z ++ W) 59 4 [(0, .ref o)] [] := by
    intro x h
    rw [fX5_keep_T_J59] at h
    refine xw_aload_n C dX5_keep_59 rfl 0 rfl ?_
    refine xw_dup C dX5_keep_60 rfl ?_
    refine xw_get C in5 9 rfl rfl 3 (by decide) m23 rfl rfl dX5_keep_61 ?_
    refine xw_iconst C (1) dX5_keep_64 (by decide) ?_
    refine xw_iadd C dX5_keep_65 ?_
    refine px_n h (fun x_66 ex_66 h => ?_)
    refine xw_put (w' := w4 E o1 q1 u1 ad1 bd1 x1 y1 z1 ++ wF E o q u ad bd cd gg x_66 y z ++ W) C in5 tyX5 tyX5_ok nmX5 9 rfl rfl 3 (by decide) m23 rfl rfl rfl (Nat.le_of_ble_eq_true rfl) (by rw [ex_66]; rfl) dX5_keep_66 ?_
    refine xw_aload_n C dX5_keep_69 rfl 0 rfl ?_
    refine xw_get C in5 9 rfl rfl 3 (by decide) m23 rfl rfl dX5_keep_70 ?_
    refine xw_iconst C (1) dX5_keep_73 (by decide) ?_
    refine xw_isub C dX5_keep_74 ?_
    cases h
    rw [hZ]
    exact xw_iret C hr dX5_keep_75
  have hL23 : ∀ n : Nat, ∀ (v3 : Int32), ∀ (x : Ob), fX5_keep_T_L23 n v3 y1 x = some r → XW E p l e rmX5_keep_T s m args below meth c Z A 0 0 (w4 E o1 q1 u1 ad1 bd1 x1 y1 z1 ++ wF E o q u ad bd cd gg x y z ++ W) 23 4 [(0, .ref o), (2, .ref o1), (3, .int v3)] [] := by
    intro n
    induction n with
    | zero =>
      intro v3 x h
      rw [fX5_keep_T_L23] at h
      cases h
    | succ n ih =>
      intro v3 x h
      rw [fX5_keep_T_L23] at h
      refine xw_iload_n C dX5_keep_23 rfl 2 rfl ?_
      refine xw_bipush C (64) dX5_keep_24 (by decide) ?_
      refine xw_icmp_ge C 59 dX5_keep_26 (by decide) (fun c26 => ?_) (fun c26 => ?_)
      · have h := px_t c26 h
        refine xw_perm [0] rfl ?_
        exact hJ59 _ h
      · have h := px_f c26 h
        refine xw_aload_n C dX5_keep_29 rfl 0 rfl ?_
        refine xw_get C in5 9 rfl rfl 2 (by decide) m19 rfl rfl dX5_keep_30 ?_
        refine xw_aload_n C dX5_keep_33 rfl 0 rfl ?_
        refine xw_get C in5 9 rfl rfl 3 (by decide) m23 rfl rfl dX5_keep_34 ?_
        refine xw_bipush C (64) dX5_keep_37 (by decide) ?_
        refine xw_imul C dX5_keep_39 ?_
        refine xw_iload_n C dX5_keep_40 rfl 2 rfl ?_
        refine xw_iadd C dX5_keep_41 ?_
        refine xw_aload_n C dX5_keep_42 rfl 1 rfl ?_
        refine xw_get C in4 0 rfl rfl 1 (by decide) m55 rfl rfl dX5_keep_43 ?_
        refine xw_iload_n C dX5_keep_46 rfl 2 rfl ?_
        obtain ⟨q47, eq47, h⟩ := px_b h
        refine xw_callVI (w' := w4 E o1 q1 u1 ad1 bd1 x1 y1 z1 ++ wF E o q u ad bd cd gg x y z ++ W) (u := (w4 E o1 q1 u1 ad1 bd1 x1 y1 z1 ++ wF E o q u ad bd cd gg x y z ++ W).take 1) (v := (w4 E o1 q1 u1 ad1 bd1 x1 y1 z1 ++ wF E o q u ad bd cd gg x y z ++ W).drop 7) C (ok_X3_depthOf (o := q1) (ad := ad1) (x := y1) eq47) 1 gX5_keep_X3_depthOf rfl ⟨rfl, rfl⟩ (by decide +kernel) ⟨Nat.le_of_ble_eq_true rfl, Nat.le_of_ble_eq_true rfl⟩ 0 3 rfl rfl rfl (Nat.le_of_ble_eq_true rfl) ⟨Nat.zero_le _, Nat.zero_le _⟩ rfl rfl (by rfl) dX5_keep_47 ?_
        obtain ⟨q50, eq50, h⟩ := px_b h
        refine px_n h (fun x_50 ex_50 h => ?_)
        refine xw_callSV (w' := w4 E o1 q1 u1 ad1 bd1 x1 y1 z1 ++ wF E o q u ad bd cd gg x_50 y z ++ W) (u := (w4 E o1 q1 u1 ad1 bd1 x1 y1 z1 ++ wF E o q u ad bd cd gg x y z ++ W).take 11) (v := (w4 E o1 q1 u1 ad1 bd1 x1 y1 z1 ++ wF E o q u ad bd cd gg x y z ++ W).drop 12) C (ok_X5_put (a := (ad 2)) (nn := 1280) (f := (x.2 2)) eq50) 3 gX5_keep_X5_put rfl ⟨rfl, rfl⟩ (by decide +kernel) ⟨Nat.le_of_ble_eq_true rfl, Nat.le_of_ble_eq_true rfl⟩ rfl (Nat.le_of_ble_eq_true rfl) ⟨Nat.zero_le _, Nat.zero_le _⟩ rfl rfl (by rw [ex_50]; rfl) dX5_keep_50 ?_
        refine px_n h (fun b53 eb53 h => ?_)
        refine xw_iinc (v := b53) C dX5_keep_53 2 rfl eb53 (by decide) (lv' := [(3, .int b53), (0, .ref o), (2, .ref o1)]) rfl ?_
        refine xw_goto C 23 dX5_keep_56 (by decide) ?_
        refine xw_perm [1, 2, 0] rfl ?_
        exact ih _ _ h
  rw [fX5_keep_T] at hf
  have h := hf
  refine xw_aload_n C dX5_keep_0 rfl 0 rfl ?_
  refine xw_iload_n C dX5_keep_1 rfl 1 rfl ?_
  refine xw_callVQ (w' := w4 E o1 q1 u1 ad1 bd1 x1 y1 z1 ++ wF E o q u ad bd cd gg x y z ++ W) (u := (w4 E o1 q1 u1 ad1 bd1 x1 y1 z1 ++ wF E o q u ad bd cd gg x y z ++ W).take 9) (v := (w4 E o1 q1 u1 ad1 bd1 x1 y1 z1 ++ wF E o q u ad bd cd gg x y z ++ W).drop 13) C (ok_X5_treeOf (o := o) (q := q) (u := u) (ad := ad) (g := gg) (x := x)) 1 gX5_keep_X5_treeOf rfl ⟨rfl, rfl⟩ (by decide +kernel) ⟨Nat.le_of_ble_eq_true rfl, Nat.le_of_ble_eq_true rfl⟩ 0 5 rfl rfl rfl (Nat.le_of_ble_eq_true rfl) ⟨Nat.zero_le _, Nat.zero_le _⟩ rfl rfl rfl dX5_keep_2 (.ref o1) (by rw [ht2]; rfl) ?_
  refine xw_astore_n C dX5_keep_5 rfl (by decide) (lv' := [(2, .ref o1), (0, .ref o), (1, .int p1)]) rfl ?_
  refine xw_aload_n C dX5_keep_6 rfl 0 rfl ?_
  refine xw_ifnull_r C dX5_keep_7 ?_
  refine xw_aload_n C dX5_keep_10 rfl 1 rfl ?_
  refine xw_get C in5 9 rfl rfl 3 (by decide) m23 rfl rfl dX5_keep_11 ?_
  refine xw_bipush C (20) dX5_keep_14 (by decide) ?_
  refine xw_icmp_lt C 21 dX5_keep_16 (by decide) (fun c16 => ?_) (fun c16 => ?_)
  · have h := px_t c16 h
    refine xw_iconst C (0) dX5_keep_21 (by decide) ?_
    refine xw_istore_n C dX5_keep_22 rfl (by decide) (lv' := [(3, .int (0)), (2, .ref o1), (0, .ref o), (1, .int p1)]) rfl ?_
    refine xw_perm [2, 1, 0] rfl ?_
    exact hL23 _ _ _ h
  · have h := px_f c16 h
    refine xw_iconst C (-1) dX5_keep_19 (by decide) ?_
    cases h
    rw [hZ]
    exact xw_iret C hr dX5_keep_20
def fX5_kept_F (p1 : Int32) (p2 : Int32) (x : Ob) : Option (Int32) :=
  (if p1 < 0 then
    some (-1)
  else
    (if (x.1 3) ≤ p1 then
      some (-1)
    else
      Option.bind (fX5_isKey p2) (fun q13 =>
      (if q13 = 0 then
        some (-1)
      else
        Option.bind (fX5_at 1280 ((p1 * (64)) + p2) (x.2 2)) (fun q31 =>
        some q31)))))
abbrev rmX5_kept_F : Room := { frames := 1, cells := 0, slots := 0, locals := 21 }
set_option maxHeartbeats 4000000 in
set_option maxRecDepth 100000 in
theorem ok_X5_kept_F {l : Launch} {E : En} {o : Nat} {q : Nat} {u : Nat} {ad : (Nat → Nat)} {bd : (Nat → Nat)} {cd : (Nat → Nat)} {gg : (Nat → Option Nat)} {W : va_W} {p1 : Int32} {p2 : Int32} {x : Ob} {y : Ob} {z : Ob} {r : Int32} (hf : fX5_kept_F p1 p2 x = some r) : CI l yX5_kept wsX5_kept (rmX5_kept_F) [.ref o, .int p1, .int p2] E (wF E o q u ad bd cd gg x y z ++ W) (wF E o q u ad bd cd gg x y z ++ W) (r) := by
  refine xc_I (by decide) rfl (Nat.le_of_ble_eq_true rfl) [(0, .ref o), (1, .int p1), (2, .int p2)] rfl (fun p e s m below meth c A C hr => ?_)
  generalize ([.ref o, .int p1, .int p2] : List Value).toArray = args at C ⊢
  obtain ⟨Z, hZ⟩ : ∃ Z, Z = ZI E (wF E o q u ad bd cd gg x y z ++ W) (r) A below args s 0 0 := ⟨_, rfl⟩
  rw [← hZ]
  have in5 : ∀ w ∈ wsX50, w ∈ wsX5_kept := by decide +kernel
  have m19 : Cond.fieldLink RX5 19 "TurningTrees" "keptDepths" "[I" ∈ wsX5_kept := by decide +kernel
  have m23 : Cond.fieldLink RX5 23 "TurningTrees" "keptMade" "I" ∈ wsX5_kept := by decide +kernel
  rw [fX5_kept_F] at hf
  have h := hf
  refine xw_iload_n C dX5_kept_0 rfl 1 rfl ?_
  refine xw_if_lt C 19 dX5_kept_1 (by decide) (fun c1 => ?_) (fun c1 => ?_)
  · have h := px_t c1 h
    refine xw_iconst C (-1) dX5_kept_19 (by decide) ?_
    cases h
    rw [hZ]
    exact xw_iret C hr dX5_kept_20
  · have h := px_f c1 h
    refine xw_iload_n C dX5_kept_4 rfl 1 rfl ?_
    refine xw_aload_n C dX5_kept_5 rfl 0 rfl ?_
    refine xw_get C in5 0 rfl rfl 3 (by decide) m23 rfl rfl dX5_kept_6 ?_
    refine xw_icmp_ge C 19 dX5_kept_9 (by decide) (fun c9 => ?_) (fun c9 => ?_)
    · have h := px_t c9 h
      refine xw_iconst C (-1) dX5_kept_19 (by decide) ?_
      cases h
      rw [hZ]
      exact xw_iret C hr dX5_kept_20
    · have h := px_f c9 h
      refine xw_iload_n C dX5_kept_12 rfl 2 rfl ?_
      obtain ⟨q13, eq13, h⟩ := px_b h
      refine xw_callSI (w' := wF E o q u ad bd cd gg x y z ++ W) (u := []) (v := wF E o q u ad bd cd gg x y z ++ W) C (ok_X5_isKey  eq13) 1 gX5_kept_X5_isKey rfl ⟨rfl, rfl⟩ (by decide +kernel) ⟨Nat.le_of_ble_eq_true rfl, Nat.le_of_ble_eq_true rfl⟩ rfl (Nat.le_of_ble_eq_true rfl) ⟨Nat.zero_le _, Nat.zero_le _⟩ rfl rfl rfl dX5_kept_13 ?_
      refine xw_if_ne C 21 dX5_kept_16 (by decide) (fun c16 => ?_) (fun c16 => ?_)
      · have h := px_f c16 h
        refine xw_aload_n C dX5_kept_21 rfl 0 rfl ?_
        refine xw_get C in5 0 rfl rfl 2 (by decide) m19 rfl rfl dX5_kept_22 ?_
        refine xw_iload_n C dX5_kept_25 rfl 1 rfl ?_
        refine xw_bipush C (64) dX5_kept_26 (by decide) ?_
        refine xw_imul C dX5_kept_28 ?_
        refine xw_iload_n C dX5_kept_29 rfl 2 rfl ?_
        refine xw_iadd C dX5_kept_30 ?_
        obtain ⟨q31, eq31, h⟩ := px_b h
        refine xw_callSI (w' := wF E o q u ad bd cd gg x y z ++ W) (u := (wF E o q u ad bd cd gg x y z ++ W).take 2) (v := (wF E o q u ad bd cd gg x y z ++ W).drop 3) C (ok_X5_at (a := (ad 2)) (nn := 1280) (f := (x.2 2)) eq31) 2 gX5_kept_X5_at rfl ⟨rfl, rfl⟩ (by decide +kernel) ⟨Nat.le_of_ble_eq_true rfl, Nat.le_of_ble_eq_true rfl⟩ rfl (Nat.le_of_ble_eq_true rfl) ⟨Nat.zero_le _, Nat.zero_le _⟩ rfl rfl (by rfl) dX5_kept_31 ?_
        cases h
        rw [hZ]
        exact xw_iret C hr dX5_kept_34
      · have h := px_t c16 h
        refine xw_iconst C (-1) dX5_kept_19 (by decide) ?_
        cases h
        rw [hZ]
        exact xw_iret C hr dX5_kept_20
def fX5_join_NN (p1 : Int32) (p2 : Int32) : Option (Int32) :=
  some (0)
abbrev rmX5_join_NN : Room := { frames := 1, cells := 0, slots := 0, locals := 21 }
set_option maxHeartbeats 4000000 in
set_option maxRecDepth 100000 in
theorem ok_X5_join_NN {l : Launch} {E : En} {o : Nat} {q : Nat} {u : Nat} {ad : (Nat → Nat)} {bd : (Nat → Nat)} {cd : (Nat → Nat)} {gg : (Nat → Option Nat)} {W : va_W} {p1 : Int32} {p2 : Int32} {x : Ob} {y : Ob} {z : Ob} {r : Int32} (ht3 : tref gg p1 = none) (ht4 : tref gg p2 = none) (hf : fX5_join_NN p1 p2 = some r) : CI l yX5_join wsX5_join (rmX5_join_NN) [.ref o, .int p1, .int p2] E (wF E o q u ad bd cd gg x y z ++ W) (wF E o q u ad bd cd gg x y z ++ W) (r) := by
  refine xc_I (by decide) rfl (Nat.le_of_ble_eq_true rfl) [(0, .ref o), (1, .int p1), (2, .int p2)] rfl (fun p e s m below meth c A C hr => ?_)
  generalize ([.ref o, .int p1, .int p2] : List Value).toArray = args at C ⊢
  obtain ⟨Z, hZ⟩ : ∃ Z, Z = ZI E (wF E o q u ad bd cd gg x y z ++ W) (r) A below args s 0 0 := ⟨_, rfl⟩
  rw [← hZ]
  rw [fX5_join_NN] at hf
  have h := hf
  refine xw_aload_n C dX5_join_0 rfl 0 rfl ?_
  refine xw_iload_n C dX5_join_1 rfl 1 rfl ?_
  refine xw_callVQ (w' := wF E o q u ad bd cd gg x y z ++ W) (u := (wF E o q u ad bd cd gg x y z ++ W).take 0) (v := (wF E o q u ad bd cd gg x y z ++ W).drop 4) C (ok_X5_treeOf (o := o) (q := q) (u := u) (ad := ad) (g := gg) (x := x)) 1 gX5_join_X5_treeOf rfl ⟨rfl, rfl⟩ (by decide +kernel) ⟨Nat.le_of_ble_eq_true rfl, Nat.le_of_ble_eq_true rfl⟩ 0 5 rfl rfl rfl (Nat.le_of_ble_eq_true rfl) ⟨Nat.zero_le _, Nat.zero_le _⟩ rfl rfl rfl dX5_join_2 (.null) (by rw [ht3]; rfl) ?_
  refine xw_astore_nN C dX5_join_5 rfl (by decide) (lv' := [(3, .null), (0, .ref o), (1, .int p1), (2, .int p2)]) rfl ?_
  refine xw_aload_n C dX5_join_6 rfl 1 rfl ?_
  refine xw_iload_n C dX5_join_7 rfl 3 rfl ?_
  refine xw_callVQ (w' := wF E o q u ad bd cd gg x y z ++ W) (u := (wF E o q u ad bd cd gg x y z ++ W).take 0) (v := (wF E o q u ad bd cd gg x y z ++ W).drop 4) C (ok_X5_treeOf (o := o) (q := q) (u := u) (ad := ad) (g := gg) (x := x)) 1 gX5_join_X5_treeOf rfl ⟨rfl, rfl⟩ (by decide +kernel) ⟨Nat.le_of_ble_eq_true rfl, Nat.le_of_ble_eq_true rfl⟩ 0 5 rfl rfl rfl (Nat.le_of_ble_eq_true rfl) ⟨Nat.zero_le _, Nat.zero_le _⟩ rfl rfl rfl dX5_join_8 (.null) (by rw [ht4]; rfl) ?_
  refine xw_astoreN C dX5_join_11 (by decide) (lv' := [(4, .null), (3, .null), (0, .ref o), (1, .int p1), (2, .int p2)]) rfl ?_
  refine xw_aload_nN C dX5_join_13 rfl 1 rfl ?_
  refine xw_ifnull_n C 40 dX5_join_14 (by decide) ?_
  refine xw_iconst C (0) dX5_join_40 (by decide) ?_
  cases h
  rw [hZ]
  exact xw_zret C hr (Or.inl rfl) dX5_join_41
def fX5_join_NA (p1 : Int32) (p2 : Int32) : Option (Int32) :=
  some (0)
abbrev rmX5_join_NA : Room := { frames := 1, cells := 0, slots := 0, locals := 21 }
set_option maxHeartbeats 4000000 in
set_option maxRecDepth 100000 in
theorem ok_X5_join_NA {l : Launch} {E : En} {o : Nat} {q : Nat} {u : Nat} {ad : (Nat → Nat)} {bd : (Nat → Nat)} {cd : (Nat → Nat)} {gg : (Nat → Option Nat)} {W : va_W} {p1 : Int32} {p2 : Int32} {x : Ob} {y : Ob} {z : Ob} {r : Int32} (ht3 : tref gg p1 = none) {b1 : Nat} (ht4 : tref gg p2 = some b1) (hf : fX5_join_NA p1 p2 = some r) : CI l yX5_join wsX5_join (rmX5_join_NA) [.ref o, .int p1, .int p2] E (wF E o q u ad bd cd gg x y z ++ W) (wF E o q u ad bd cd gg x y z ++ W) (r) := by
  refine xc_I (by decide) rfl (Nat.le_of_ble_eq_true rfl) [(0, .ref o), (1, .int p1), (2, .int p2)] rfl (fun p e s m below meth c A C hr => ?_)
  generalize ([.ref o, .int p1, .int p2] : List Value).toArray = args at C ⊢
  obtain ⟨Z, hZ⟩ : ∃ Z, Z = ZI E (wF E o q u ad bd cd gg x y z ++ W) (r) A below args s 0 0 := ⟨_, rfl⟩
  rw [← hZ]
  rw [fX5_join_NA] at hf
  have h := hf
  refine xw_aload_n C dX5_join_0 rfl 0 rfl ?_
  refine xw_iload_n C dX5_join_1 rfl 1 rfl ?_
  refine xw_callVQ (w' := wF E o q u ad bd cd gg x y z ++ W) (u := (wF E o q u ad bd cd gg x y z ++ W).take 0) (v := (wF E o q u ad bd cd gg x y z ++ W).drop 4) C (ok_X5_treeOf (o := o) (q := q) (u := u) (ad := ad) (g := gg) (x := x)) 1 gX5_join_X5_treeOf rfl ⟨rfl, rfl⟩ (by decide +kernel) ⟨Nat.le_of_ble_eq_true rfl, Nat.le_of_ble_eq_true rfl⟩ 0 5 rfl rfl rfl (Nat.le_of_ble_eq_true rfl) ⟨Nat.zero_le _, Nat.zero_le _⟩ rfl rfl rfl dX5_join_2 (.null) (by rw [ht3]; rfl) ?_
  refine xw_astore_nN C dX5_join_5 rfl (by decide) (lv' := [(3, .null), (0, .ref o), (1, .int p1), (2, .int p2)]) rfl ?_
  refine xw_aload_n C dX5_join_6 rfl 1 rfl ?_
  refine xw_iload_n C dX5_join_7 rfl 3 rfl ?_
  refine xw_callVQ (w' := wF E o q u ad bd cd gg x y z ++ W) (u := (wF E o q u ad bd cd gg x y z ++ W).take 0) (v := (wF E o q u ad bd cd gg x y z ++ W).drop 4) C (ok_X5_treeOf (o := o) (q := q) (u := u) (ad := ad) (g := gg) (x := x)) 1 gX5_join_X5_treeOf rfl ⟨rfl, rfl⟩ (by decide +kernel) ⟨Nat.le_of_ble_eq_true rfl, Nat.le_of_ble_eq_true rfl⟩ 0 5 rfl rfl rfl (Nat.le_of_ble_eq_true rfl) ⟨Nat.zero_le _, Nat.zero_le _⟩ rfl rfl rfl dX5_join_8 (.ref b1) (by rw [ht4]; rfl) ?_
  refine xw_astore C dX5_join_11 (by decide) (lv' := [(4, .ref b1), (3, .null), (0, .ref o), (1, .int p1), (2, .int p2)]) rfl ?_
  refine xw_aload_nN C dX5_join_13 rfl 1 rfl ?_
  refine xw_ifnull_n C 40 dX5_join_14 (by decide) ?_
  refine xw_iconst C (0) dX5_join_40 (by decide) ?_
  cases h
  rw [hZ]
  exact xw_zret C hr (Or.inl rfl) dX5_join_41
def fX5_join_AN (p1 : Int32) (p2 : Int32) : Option (Int32) :=
  some (0)
abbrev rmX5_join_AN : Room := { frames := 1, cells := 0, slots := 0, locals := 21 }
set_option maxHeartbeats 4000000 in
set_option maxRecDepth 100000 in
theorem ok_X5_join_AN {l : Launch} {E : En} {o : Nat} {q : Nat} {u : Nat} {ad : (Nat → Nat)} {bd : (Nat → Nat)} {cd : (Nat → Nat)} {gg : (Nat → Option Nat)} {W : va_W} {p1 : Int32} {p2 : Int32} {x : Ob} {y : Ob} {z : Ob} {r : Int32} {b1 : Nat} (ht3 : tref gg p1 = some b1) (ht4 : tref gg p2 = none) (hf : fX5_join_AN p1 p2 = some r) : CI l yX5_join wsX5_join (rmX5_join_AN) [.ref o, .int p1, .int p2] E (wF E o q u ad bd cd gg x y z ++ W) (wF E o q u ad bd cd gg x y z ++ W) (r) := by
  refine xc_I (by decide) rfl (Nat.le_of_ble_eq_true rfl) [(0, .ref o), (1, .int p1), (2, .int p2)] rfl (fun p e s m below meth c A C hr => ?_)
  generalize ([.ref o, .int p1, .int p2] : List Value).toArray = args at C ⊢
  obtain ⟨Z, hZ⟩ : ∃ Z, Z = ZI E (wF E o q u ad bd cd gg x y z ++ W) (r) A below args s 0 0 := ⟨_, rfl⟩
  rw [← hZ]
  rw [fX5_join_AN] at hf
  have h := hf
  refine xw_aload_n C dX5_join_0 rfl 0 rfl ?_
  refine xw_iload_n C dX5_join_1 rfl 1 rfl ?_
  refine xw_callVQ (w' := wF E o q u ad bd cd gg x y z ++ W) (u := (wF E o q u ad bd cd gg x y z ++ W).take 0) (v := (wF E o q u ad bd cd gg x y z ++ W).drop 4) C (ok_X5_treeOf (o := o) (q := q) (u := u) (ad := ad) (g := gg) (x := x)) 1 gX5_join_X5_treeOf rfl ⟨rfl, rfl⟩ (by decide +kernel) ⟨Nat.le_of_ble_eq_true rfl, Nat.le_of_ble_eq_true rfl⟩ 0 5 rfl rfl rfl (Nat.le_of_ble_eq_true rfl) ⟨Nat.zero_le _, Nat.zero_le _⟩ rfl rfl rfl dX5_join_2 (.ref b1) (by rw [ht3]; rfl) ?_
  refine xw_astore_n C dX5_join_5 rfl (by decide) (lv' := [(3, .ref b1), (0, .ref o), (1, .int p1), (2, .int p2)]) rfl ?_
  refine xw_aload_n C dX5_join_6 rfl 1 rfl ?_
  refine xw_iload_n C dX5_join_7 rfl 3 rfl ?_
  refine xw_callVQ (w' := wF E o q u ad bd cd gg x y z ++ W) (u := (wF E o q u ad bd cd gg x y z ++ W).take 0) (v := (wF E o q u ad bd cd gg x y z ++ W).drop 4) C (ok_X5_treeOf (o := o) (q := q) (u := u) (ad := ad) (g := gg) (x := x)) 1 gX5_join_X5_treeOf rfl ⟨rfl, rfl⟩ (by decide +kernel) ⟨Nat.le_of_ble_eq_true rfl, Nat.le_of_ble_eq_true rfl⟩ 0 5 rfl rfl rfl (Nat.le_of_ble_eq_true rfl) ⟨Nat.zero_le _, Nat.zero_le _⟩ rfl rfl rfl dX5_join_8 (.null) (by rw [ht4]; rfl) ?_
  refine xw_astoreN C dX5_join_11 (by decide) (lv' := [(4, .null), (3, .ref b1), (0, .ref o), (1, .int p1), (2, .int p2)]) rfl ?_
  refine xw_aload_n C dX5_join_13 rfl 1 rfl ?_
  refine xw_ifnull_r C dX5_join_14 ?_
  refine xw_aloadN C dX5_join_17 0 rfl ?_
  refine xw_ifnull_n C 40 dX5_join_19 (by decide) ?_
  refine xw_iconst C (0) dX5_join_40 (by decide) ?_
  cases h
  rw [hZ]
  exact xw_zret C hr (Or.inl rfl) dX5_join_41
def fX5_join_AA (p1 : Int32) (p2 : Int32) : Option (Int32) :=
  some (0)
abbrev rmX5_join_AA : Room := { frames := 1, cells := 0, slots := 0, locals := 21 }
set_option maxHeartbeats 4000000 in
set_option maxRecDepth 100000 in
theorem ok_X5_join_AA {l : Launch} {E : En} {o : Nat} {q : Nat} {u : Nat} {ad : (Nat → Nat)} {bd : (Nat → Nat)} {cd : (Nat → Nat)} {gg : (Nat → Option Nat)} {W : va_W} {p1 : Int32} {p2 : Int32} {x : Ob} {y : Ob} {z : Ob} {r : Int32} {b1 : Nat} (ht3 : tref gg p1 = some b1) (ht4 : tref gg p2 = some b1) (hf : fX5_join_AA p1 p2 = some r) : CI l yX5_join wsX5_join (rmX5_join_AA) [.ref o, .int p1, .int p2] E (wF E o q u ad bd cd gg x y z ++ W) (wF E o q u ad bd cd gg x y z ++ W) (r) := by
  refine xc_I (by decide) rfl (Nat.le_of_ble_eq_true rfl) [(0, .ref o), (1, .int p1), (2, .int p2)] rfl (fun p e s m below meth c A C hr => ?_)
  generalize ([.ref o, .int p1, .int p2] : List Value).toArray = args at C ⊢
  obtain ⟨Z, hZ⟩ : ∃ Z, Z = ZI E (wF E o q u ad bd cd gg x y z ++ W) (r) A below args s 0 0 := ⟨_, rfl⟩
  rw [← hZ]
  rw [fX5_join_AA] at hf
  have h := hf
  refine xw_aload_n C dX5_join_0 rfl 0 rfl ?_
  refine xw_iload_n C dX5_join_1 rfl 1 rfl ?_
  refine xw_callVQ (w' := wF E o q u ad bd cd gg x y z ++ W) (u := (wF E o q u ad bd cd gg x y z ++ W).take 0) (v := (wF E o q u ad bd cd gg x y z ++ W).drop 4) C (ok_X5_treeOf (o := o) (q := q) (u := u) (ad := ad) (g := gg) (x := x)) 1 gX5_join_X5_treeOf rfl ⟨rfl, rfl⟩ (by decide +kernel) ⟨Nat.le_of_ble_eq_true rfl, Nat.le_of_ble_eq_true rfl⟩ 0 5 rfl rfl rfl (Nat.le_of_ble_eq_true rfl) ⟨Nat.zero_le _, Nat.zero_le _⟩ rfl rfl rfl dX5_join_2 (.ref b1) (by rw [ht3]; rfl) ?_
  refine xw_astore_n C dX5_join_5 rfl (by decide) (lv' := [(3, .ref b1), (0, .ref o), (1, .int p1), (2, .int p2)]) rfl ?_
  refine xw_aload_n C dX5_join_6 rfl 1 rfl ?_
  refine xw_iload_n C dX5_join_7 rfl 3 rfl ?_
  refine xw_callVQ (w' := wF E o q u ad bd cd gg x y z ++ W) (u := (wF E o q u ad bd cd gg x y z ++ W).take 0) (v := (wF E o q u ad bd cd gg x y z ++ W).drop 4) C (ok_X5_treeOf (o := o) (q := q) (u := u) (ad := ad) (g := gg) (x := x)) 1 gX5_join_X5_treeOf rfl ⟨rfl, rfl⟩ (by decide +kernel) ⟨Nat.le_of_ble_eq_true rfl, Nat.le_of_ble_eq_true rfl⟩ 0 5 rfl rfl rfl (Nat.le_of_ble_eq_true rfl) ⟨Nat.zero_le _, Nat.zero_le _⟩ rfl rfl rfl dX5_join_8 (.ref b1) (by rw [ht4]; rfl) ?_
  refine xw_astore C dX5_join_11 (by decide) (lv' := [(4, .ref b1), (3, .ref b1), (0, .ref o), (1, .int p1), (2, .int p2)]) rfl ?_
  refine xw_aload_n C dX5_join_13 rfl 1 rfl ?_
  refine xw_ifnull_r C dX5_join_14 ?_
  refine xw_aload C dX5_join_17 0 rfl ?_
  refine xw_ifnull_r C dX5_join_19 ?_
  refine xw_aload_n C dX5_join_22 rfl 1 rfl ?_
  refine xw_aload C dX5_join_23 0 rfl ?_
  refine xw_acmp_eq_t C 40 rfl dX5_join_25 (by decide) ?_
  refine xw_iconst C (0) dX5_join_40 (by decide) ?_
  cases h
  rw [hZ]
  exact xw_zret C hr (Or.inl rfl) dX5_join_41
def fX5_join_TT (p1 : Int32) (p2 : Int32) (x1 : Ob) (y1 : Ob) (x2 : Ob) (y2 : Ob) : Option (Int32 × Ob × Ob × Ob × Ob) :=
  (if (x1.1 0) = (x2.1 0) then
    Option.bind (fX3_isBelow y1 y2) (fun q51 =>
    (if q51 = 0 then
      some ((0), x1, y1, x2, y2)
    else
      Option.bind (fX4_takeOver x1 y1 y2) (fun q62 =>
      Option.bind (fX4_beginMost x1 q62.1) (fun q66 =>
      Option.bind (fX4_beginMost x2 q62.2) (fun q71 =>
      some ((1), q66, q62.1, q71, q62.2))))))
  else
    some ((0), x1, y1, x2, y2))
abbrev rmX5_join_TT : Room := { frames := 5, cells := 0, slots := 0, locals := 116 }
set_option maxHeartbeats 4000000 in
set_option maxRecDepth 100000 in
theorem ok_X5_join_TT {l : Launch} {E : En} {o1 : Nat} {q1 : Nat} {u1 : Nat} {ad1 : (Nat → Nat)} {bd1 : (Nat → Nat)} {o2 : Nat} {q2 : Nat} {u2 : Nat} {ad2 : (Nat → Nat)} {bd2 : (Nat → Nat)} {o : Nat} {q : Nat} {u : Nat} {ad : (Nat → Nat)} {bd : (Nat → Nat)} {cd : (Nat → Nat)} {gg : (Nat → Option Nat)} {W : va_W} {p1 : Int32} {p2 : Int32} {x1 : Ob} {y1 : Ob} {z1 : Ob} {x2 : Ob} {y2 : Ob} {z2 : Ob} {x : Ob} {y : Ob} {z : Ob} {r : Int32 × Ob × Ob × Ob × Ob} (ht3 : tref gg p1 = some o1) (ht4 : tref gg p2 = some o2) (hne : ¬ o1 = o2) (hf : fX5_join_TT p1 p2 x1 y1 x2 y2 = some r) : CI l yX5_join wsX5_join (rmX5_join_TT) [.ref o, .int p1, .int p2] E (w4 E o1 q1 u1 ad1 bd1 x1 y1 z1 ++ w4 E o2 q2 u2 ad2 bd2 x2 y2 z2 ++ wF E o q u ad bd cd gg x y z ++ W) (w4 E o1 q1 u1 ad1 bd1 r.2.1 r.2.2.1 z1 ++ w4 E o2 q2 u2 ad2 bd2 r.2.2.2.1 r.2.2.2.2 z2 ++ wF E o q u ad bd cd gg x y z ++ W) (r.1) := by
  refine xc_I (by decide) rfl (Nat.le_of_ble_eq_true rfl) [(0, .ref o), (1, .int p1), (2, .int p2)] rfl (fun p e s m below meth c A C hr => ?_)
  generalize ([.ref o, .int p1, .int p2] : List Value).toArray = args at C ⊢
  obtain ⟨Z, hZ⟩ : ∃ Z, Z = ZI E (w4 E o1 q1 u1 ad1 bd1 r.2.1 r.2.2.1 z1 ++ w4 E o2 q2 u2 ad2 bd2 r.2.2.2.1 r.2.2.2.2 z2 ++ wF E o q u ad bd cd gg x y z ++ W) (r.1) A below args s 0 0 := ⟨_, rfl⟩
  rw [← hZ]
  have in4 : ∀ w ∈ wsX40, w ∈ wsX5_join := by decide +kernel
  have m55 : Cond.fieldLink RX5 55 "TurningTrees$Tree" "shape" "LTurningTrees$Shape;" ∈ wsX5_join := by decide +kernel
  have m80 : Cond.fieldLink RX5 80 "TurningTrees$Tree" "kind" "I" ∈ wsX5_join := by decide +kernel
  rw [fX5_join_TT] at hf
  have h := hf
  refine xw_aload_n C dX5_join_0 rfl 0 rfl ?_
  refine xw_iload_n C dX5_join_1 rfl 1 rfl ?_
  refine xw_callVQ (w' := w4 E o1 q1 u1 ad1 bd1 x1 y1 z1 ++ w4 E o2 q2 u2 ad2 bd2 x2 y2 z2 ++ wF E o q u ad bd cd gg x y z ++ W) (u := (w4 E o1 q1 u1 ad1 bd1 x1 y1 z1 ++ w4 E o2 q2 u2 ad2 bd2 x2 y2 z2 ++ wF E o q u ad bd cd gg x y z ++ W).take 18) (v := (w4 E o1 q1 u1 ad1 bd1 x1 y1 z1 ++ w4 E o2 q2 u2 ad2 bd2 x2 y2 z2 ++ wF E o q u ad bd cd gg x y z ++ W).drop 22) C (ok_X5_treeOf (o := o) (q := q) (u := u) (ad := ad) (g := gg) (x := x)) 1 gX5_join_X5_treeOf rfl ⟨rfl, rfl⟩ (by decide +kernel) ⟨Nat.le_of_ble_eq_true rfl, Nat.le_of_ble_eq_true rfl⟩ 0 5 rfl rfl rfl (Nat.le_of_ble_eq_true rfl) ⟨Nat.zero_le _, Nat.zero_le _⟩ rfl rfl rfl dX5_join_2 (.ref o1) (by rw [ht3]; rfl) ?_
  refine xw_astore_n C dX5_join_5 rfl (by decide) (lv' := [(3, .ref o1), (0, .ref o), (1, .int p1), (2, .int p2)]) rfl ?_
  refine xw_aload_n C dX5_join_6 rfl 1 rfl ?_
  refine xw_iload_n C dX5_join_7 rfl 3 rfl ?_
  refine xw_callVQ (w' := w4 E o1 q1 u1 ad1 bd1 x1 y1 z1 ++ w4 E o2 q2 u2 ad2 bd2 x2 y2 z2 ++ wF E o q u ad bd cd gg x y z ++ W) (u := (w4 E o1 q1 u1 ad1 bd1 x1 y1 z1 ++ w4 E o2 q2 u2 ad2 bd2 x2 y2 z2 ++ wF E o q u ad bd cd gg x y z ++ W).take 18) (v := (w4 E o1 q1 u1 ad1 bd1 x1 y1 z1 ++ w4 E o2 q2 u2 ad2 bd2 x2 y2 z2 ++ wF E o q u ad bd cd gg x y z ++ W).drop 22) C (ok_X5_treeOf (o := o) (q := q) (u := u) (ad := ad) (g := gg) (x := x)) 1 gX5_join_X5_treeOf rfl ⟨rfl, rfl⟩ (by decide +kernel) ⟨Nat.le_of_ble_eq_true rfl, Nat.le_of_ble_eq_true rfl⟩ 0 5 rfl rfl rfl (Nat.le_of_ble_eq_true rfl) ⟨Nat.zero_le _, Nat.zero_le _⟩ rfl rfl rfl dX5_join_8 (.ref o2) (by rw [ht4]; rfl) ?_
  refine xw_astore C dX5_join_11 (by decide) (lv' := [(4, .ref o2), (3, .ref o1), (0, .ref o), (1, .int p1), (2, .int p2)]) rfl ?_
  refine xw_aload_n C dX5_join_13 rfl 1 rfl ?_
  refine xw_ifnull_r C dX5_join_14 ?_
  refine xw_aload C dX5_join_17 0 rfl ?_
  refine xw_ifnull_r C dX5_join_19 ?_
  refine xw_aload_n C dX5_join_22 rfl 1 rfl ?_
  refine xw_aload C dX5_join_23 0 rfl ?_
  refine xw_acmp_eq_f C 40 hne dX5_join_25 (by decide) ?_
  refine xw_aload_n C dX5_join_28 rfl 1 rfl ?_
  refine xw_get C in4 0 rfl rfl 0 (by decide) m80 rfl rfl dX5_join_29 ?_
  refine xw_aload C dX5_join_32 0 rfl ?_
  refine xw_get C in4 9 rfl rfl 0 (by decide) m80 rfl rfl dX5_join_34 ?_
  refine xw_icmp_eq C 42 dX5_join_37 (by decide) (fun c37 => ?_) (fun c37 => ?_)
  · have h := px_t c37 h
    refine xw_aload_n C dX5_join_42 rfl 1 rfl ?_
    refine xw_get C in4 0 rfl rfl 1 (by decide) m55 rfl rfl dX5_join_43 ?_
    refine xw_aload C dX5_join_46 0 rfl ?_
    refine xw_get C in4 9 rfl rfl 1 (by decide) m55 rfl rfl dX5_join_48 ?_
    obtain ⟨q51, eq51, h⟩ := px_b h
    refine xw_worldP (w1 := w4 E o1 q1 u1 ad1 bd1 x1 y1 z1 ++ w4 E o2 q2 u2 ad2 bd2 x2 y2 z2 ++ wF E o q u ad bd cd gg x y z) (w2 := w3 E q1 ad1 y1 ++ w3 E q2 ad2 y2 ++ (([0, 7, 8, 9, 16, 17, 18, 19, 20, 21, 22, 23, 24, 25, 26, 27, 28, 29] : List Nat).filterMap (fun i => (w4 E o1 q1 u1 ad1 bd1 x1 y1 z1 ++ w4 E o2 q2 u2 ad2 bd2 x2 y2 z2 ++ wF E o q u ad bd cd gg x y z)[i]?))) (V := W) [1, 2, 3, 4, 5, 6, 10, 11, 12, 13, 14, 15, 0, 7, 8, 9, 16, 17, 18, 19, 20, 21, 22, 23, 24, 25, 26, 27, 28, 29] rfl rfl rfl ?_
    refine xw_callVI (w' := (w3 E q1 ad1 y1 ++ w3 E q2 ad2 y2 ++ (([0, 7, 8, 9, 16, 17, 18, 19, 20, 21, 22, 23, 24, 25, 26, 27, 28, 29] : List Nat).filterMap (fun i => (w4 E o1 q1 u1 ad1 bd1 x1 y1 z1 ++ w4 E o2 q2 u2 ad2 bd2 x2 y2 z2 ++ wF E o q u ad bd cd gg x y z)[i]?))) ++ W) (u := []) (v := (([0, 7, 8, 9, 16, 17, 18, 19, 20, 21, 22, 23, 24, 25, 26, 27, 28, 29] : List Nat).filterMap (fun i => (w4 E o1 q1 u1 ad1 bd1 x1 y1 z1 ++ w4 E o2 q2 u2 ad2 bd2 x2 y2 z2 ++ wF E o q u ad bd cd gg x y z)[i]?)) ++ W) C (ok_X3_isBelow (o := q1) (ad := ad1) (o1 := q2) (ad1 := ad2) (x := y1) (x1 := y2) eq51) 1 gX5_join_X3_isBelow rfl ⟨rfl, rfl⟩ (by decide +kernel) ⟨Nat.le_of_ble_eq_true rfl, Nat.le_of_ble_eq_true rfl⟩ 0 3 rfl rfl rfl (Nat.le_of_ble_eq_true rfl) ⟨Nat.zero_le _, Nat.zero_le _⟩ rfl rfl rfl dX5_join_51 ?_
    refine xw_worldP (w1 := w3 E q1 ad1 y1 ++ w3 E q2 ad2 y2 ++ (([0, 7, 8, 9, 16, 17, 18, 19, 20, 21, 22, 23, 24, 25, 26, 27, 28, 29] : List Nat).filterMap (fun i => (w4 E o1 q1 u1 ad1 bd1 x1 y1 z1 ++ w4 E o2 q2 u2 ad2 bd2 x2 y2 z2 ++ wF E o q u ad bd cd gg x y z)[i]?))) (w2 := w4 E o1 q1 u1 ad1 bd1 x1 y1 z1 ++ w4 E o2 q2 u2 ad2 bd2 x2 y2 z2 ++ wF E o q u ad bd cd gg x y z) (V := W) [12, 0, 1, 2, 3, 4, 5, 13, 14, 15, 6, 7, 8, 9, 10, 11, 16, 17, 18, 19, 20, 21, 22, 23, 24, 25, 26, 27, 28, 29] rfl (by rfl) (by rfl) ?_
    refine xw_if_ne C 59 dX5_join_54 (by decide) (fun c54 => ?_) (fun c54 => ?_)
    · have h := px_f c54 h
      refine xw_aload_n C dX5_join_59 rfl 1 rfl ?_
      refine xw_aload C dX5_join_60 0 rfl ?_
      obtain ⟨q62, eq62, h⟩ := px_b h
      refine xw_callVV (w' := w4 E o1 q1 u1 ad1 bd1 x1 q62.1 z1 ++ w4 E o2 q2 u2 ad2 bd2 x2 q62.2 z2 ++ wF E o q u ad bd cd gg x y z ++ W) (u := (w4 E o1 q1 u1 ad1 bd1 x1 y1 z1 ++ w4 E o2 q2 u2 ad2 bd2 x2 y2 z2 ++ wF E o q u ad bd cd gg x y z ++ W).take 0) (v := (w4 E o1 q1 u1 ad1 bd1 x1 y1 z1 ++ w4 E o2 q2 u2 ad2 bd2 x2 y2 z2 ++ wF E o q u ad bd cd gg x y z ++ W).drop 18) C (ok_X4_takeOver (o := o1) (q := q1) (u := u1) (ad := ad1) (bd := bd1) (o1 := o2) (q1 := q2) (u1 := u2) (ad1 := ad2) (bd1 := bd2) (x := x1) (y := y1) (z := z1) (x1 := x2) (y1 := y2) (z1 := z2) eq62) 1 gX5_join_X4_takeOver rfl ⟨rfl, rfl⟩ (by decide +kernel) ⟨Nat.le_of_ble_eq_true rfl, Nat.le_of_ble_eq_true rfl⟩ 0 4 rfl rfl rfl (Nat.le_of_ble_eq_true rfl) ⟨Nat.zero_le _, Nat.zero_le _⟩ rfl rfl (by rfl) dX5_join_62 ?_
      refine xw_aload_n C dX5_join_65 rfl 1 rfl ?_
      obtain ⟨q66, eq66, h⟩ := px_b h
      refine xw_callVV (w' := w4 E o1 q1 u1 ad1 bd1 q66 q62.1 z1 ++ w4 E o2 q2 u2 ad2 bd2 x2 q62.2 z2 ++ wF E o q u ad bd cd gg x y z ++ W) (u := (w4 E o1 q1 u1 ad1 bd1 x1 q62.1 z1 ++ w4 E o2 q2 u2 ad2 bd2 x2 q62.2 z2 ++ wF E o q u ad bd cd gg x y z ++ W).take 0) (v := (w4 E o1 q1 u1 ad1 bd1 x1 q62.1 z1 ++ w4 E o2 q2 u2 ad2 bd2 x2 q62.2 z2 ++ wF E o q u ad bd cd gg x y z ++ W).drop 9) C (ok_X4_beginMost (o := o1) (q := q1) (u := u1) (ad := ad1) (bd := bd1) (x := x1) (y := q62.1) (z := z1) eq66) 0 gX5_join_X4_beginMost rfl ⟨rfl, rfl⟩ (by decide +kernel) ⟨Nat.le_of_ble_eq_true rfl, Nat.le_of_ble_eq_true rfl⟩ 0 4 rfl rfl rfl (Nat.le_of_ble_eq_true rfl) ⟨Nat.zero_le _, Nat.zero_le _⟩ rfl rfl (by rfl) dX5_join_66 ?_
      refine xw_aload C dX5_join_69 0 rfl ?_
      obtain ⟨q71, eq71, h⟩ := px_b h
      refine xw_callVV (w' := w4 E o1 q1 u1 ad1 bd1 q66 q62.1 z1 ++ w4 E o2 q2 u2 ad2 bd2 q71 q62.2 z2 ++ wF E o q u ad bd cd gg x y z ++ W) (u := (w4 E o1 q1 u1 ad1 bd1 q66 q62.1 z1 ++ w4 E o2 q2 u2 ad2 bd2 x2 q62.2 z2 ++ wF E o q u ad bd cd gg x y z ++ W).take 9) (v := (w4 E o1 q1 u1 ad1 bd1 q66 q62.1 z1 ++ w4 E o2 q2 u2 ad2 bd2 x2 q62.2 z2 ++ wF E o q u ad bd cd gg x y z ++ W).drop 18) C (ok_X4_beginMost (o := o2) (q := q2) (u := u2) (ad := ad2) (bd := bd2) (x := x2) (y := q62.2) (z := z2) eq71) 0 gX5_join_X4_beginMost rfl ⟨rfl, rfl⟩ (by decide +kernel) ⟨Nat.le_of_ble_eq_true rfl, Nat.le_of_ble_eq_true rfl⟩ 0 4 rfl rfl rfl (Nat.le_of_ble_eq_true rfl) ⟨Nat.zero_le _, Nat.zero_le _⟩ rfl rfl (by rfl) dX5_join_71 ?_
      refine xw_iconst C (1) dX5_join_74 (by decide) ?_
      cases h
      rw [hZ]
      exact xw_zret C hr (Or.inr rfl) dX5_join_75
    · have h := px_t c54 h
      refine xw_iconst C (0) dX5_join_57 (by decide) ?_
      cases h
      rw [hZ]
      exact xw_zret C hr (Or.inl rfl) dX5_join_58
  · have h := px_f c37 h
    refine xw_iconst C (0) dX5_join_40 (by decide) ?_
    cases h
    rw [hZ]
    exact xw_zret C hr (Or.inl rfl) dX5_join_41
