def fX4_mergeByWeight_J93 (k11 : Int32 → Int32 → Int32 → Int32 → Ob → Option (Ob)) (v3 : Int32) (v4 : Int32) (v5 : Int32) (v6 : Int32) (y : Ob) : Option (Ob) :=
  px_let (v6 + (1) : Int32) (fun b93 =>
  k11 v3 v4 v5 b93 y)
def fX4_mergeByWeight_J114 (v5 : Int32) (s0 : Int32) (y : Ob) : Option (Ob) :=
  Option.bind (fX3_hang s0 v5 y) (fun q116 =>
  Option.bind (fX3_resizeUpFrom v5 q116) (fun q125 =>
  some q125))
def fX4_mergeByWeight_J99 (v3 : Int32) (v4 : Int32) (v5 : Int32) (y : Ob) : Option (Ob) :=
  (if v3 = (-1) then
    fX4_mergeByWeight_J114 v5 v4 y
  else
    fX4_mergeByWeight_J114 v5 v3 y)
def fX4_mergeByWeight_L11 : Nat → Int32 → Int32 → Int32 → Int32 → Ob → Option (Ob)
  | 0, _, _, _, _, _ => none
  | n + 1, v3, v4, v5, v6, y =>
  (if (128) ≤ v6 then
    fX4_mergeByWeight_J99 v3 v4 v5 y
  else
    (if v3 = (-1) then
      fX4_mergeByWeight_J99 v3 v4 v5 y
    else
      (if v4 = (-1) then
        fX4_mergeByWeight_J99 v3 v4 v5 y
      else
        Option.bind (fX5_weight v3) (fun q31 =>
        Option.bind (fX5_weight v4) (fun q36 =>
        (if q31 ≤ q36 then
          Option.bind (fX3_hang v4 v5 y) (fun q75 =>
          Option.bind (fX3_leftOf v4 q75) (fun q88 =>
          fX4_mergeByWeight_J93 (fX4_mergeByWeight_L11 n) v3 q88 v4 v6 q75))
        else
          Option.bind (fX3_hang v3 v5 y) (fun q49 =>
          Option.bind (fX3_rightOf v3 q49) (fun q60 =>
          fX4_mergeByWeight_J93 (fX4_mergeByWeight_L11 n) q60 v4 v3 v6 q49))))))))
def fX4_mergeByWeight (p1 : Int32) (p2 : Int32) (y : Ob) : Option (Ob) :=
  fX4_mergeByWeight_L11 FU p1 p2 (-1) (0) y
abbrev rmX4_mergeByWeight : Room := { frames := 3, cells := 0, slots := 0, locals := 66 }
set_option maxHeartbeats 4000000 in
set_option maxRecDepth 100000 in
theorem ok_X4_mergeByWeight {l : Launch} {E : En} {o : Nat} {q : Nat} {u : Nat} {ad : (Nat → Nat)} {bd : (Nat → Nat)} {p1 : Int32} {p2 : Int32} {x : Ob} {y : Ob} {z : Ob} {r : Ob} (hf : fX4_mergeByWeight p1 p2 y = some r) : CV l yX4_mergeByWeight wsX4_mergeByWeight (rmX4_mergeByWeight) [.ref o, .int p1, .int p2] E (w4 E o q u ad bd x y z) (w4 E o q u ad bd x r z) := by
  refine xc_V (by decide) rfl (Nat.le_of_ble_eq_true rfl) [(0, .ref o), (1, .int p1), (2, .int p2)] rfl (fun p e s m below meth c A C hr => ?_)
  generalize ([.ref o, .int p1, .int p2] : List Value).toArray = args at C ⊢
  obtain ⟨Z, hZ⟩ : ∃ Z, Z = ZV E (w4 E o q u ad bd x r z) A below args s 0 0 := ⟨_, rfl⟩
  rw [← hZ]
  have in4 : ∀ w ∈ wsX40, w ∈ wsX4_mergeByWeight := by decide +kernel
  have m18 : Cond.fieldLink RX4 18 "TurningTrees$Tree" "shape" "LTurningTrees$Shape;" ∈ wsX4_mergeByWeight := by decide +kernel
  have hJ93 : ∀ (k11 : Int32 → Int32 → Int32 → Int32 → Ob → Option (Ob)), (∀ (v3 : Int32), ∀ (v4 : Int32), ∀ (v5 : Int32), ∀ (v6 : Int32), ∀ (y : Ob), k11 v3 v4 v5 v6 y = some r → XW E p l e rmX4_mergeByWeight s m args below meth c Z A 0 0 (w4 E o q u ad bd x y z) 11 7 [(0, .ref o), (3, .int v3), (4, .int v4), (5, .int v5), (6, .int v6)] []) → ∀ (v3 : Int32), ∀ (v4 : Int32), ∀ (v5 : Int32), ∀ (v6 : Int32), ∀ (y : Ob), fX4_mergeByWeight_J93 k11 v3 v4 v5 v6 y = some r → XW E p l e rmX4_mergeByWeight s m args below meth c Z A 0 0 (w4 E o q u ad bd x y z) 93 7 [(0, .ref o), (3, .int v3), (4, .int v4), (5, .int v5), (6, .int v6)] [] := by
    intro k11 hk11 v3 v4 v5 v6 y h
    rw [fX4_mergeByWeight_J93] at h
    refine px_n h (fun b93 eb93 h => ?_)
    refine xw_iinc (v := b93) C dX4_mergeByWeight_93 4 rfl eb93 (by decide) (lv' := [(6, .int b93), (0, .ref o), (3, .int v3), (4, .int v4), (5, .int v5)]) rfl ?_
    refine xw_goto C 11 dX4_mergeByWeight_96 (by decide) ?_
    refine xw_perm [1, 2, 3, 4, 0] rfl ?_
    exact hk11 _ _ _ _ _ h
  have hJ114 : ∀ (v5 : Int32), ∀ (s0 : Int32), ∀ (y : Ob), fX4_mergeByWeight_J114 v5 s0 y = some r → XW E p l e rmX4_mergeByWeight s m args below meth c Z A 0 0 (w4 E o q u ad bd x y z) 114 7 [(0, .ref o), (5, .int v5)] [.int s0, .ref q] := by
    intro v5 s0 y h
    rw [fX4_mergeByWeight_J114] at h
    refine xw_iload C dX4_mergeByWeight_114 1 rfl ?_
    obtain ⟨q116, eq116, h⟩ := px_b h
    refine xw_callVV (w' := w4 E o q u ad bd x q116 z) (u := (w4 E o q u ad bd x y z).take 1) (v := (w4 E o q u ad bd x y z).drop 7) C (ok_X3_hang (o := q) (ad := ad) (x := y) eq116) 2 gX4_mergeByWeight_X3_hang rfl ⟨rfl, rfl⟩ (by decide +kernel) ⟨Nat.le_of_ble_eq_true rfl, Nat.le_of_ble_eq_true rfl⟩ 0 3 rfl rfl rfl (Nat.le_of_ble_eq_true rfl) ⟨Nat.zero_le _, Nat.zero_le _⟩ rfl rfl (by rfl) dX4_mergeByWeight_116 ?_
    refine xw_aload_n C dX4_mergeByWeight_119 rfl 0 rfl ?_
    refine xw_get C in4 0 rfl rfl 1 (by decide) m18 rfl rfl dX4_mergeByWeight_120 ?_
    refine xw_iload C dX4_mergeByWeight_123 1 rfl ?_
    obtain ⟨q125, eq125, h⟩ := px_b h
    refine xw_callVV (w' := w4 E o q u ad bd x q125 z) (u := (w4 E o q u ad bd x q116 z).take 1) (v := (w4 E o q u ad bd x q116 z).drop 7) C (ok_X3_resizeUpFrom (o := q) (ad := ad) (x := q116) eq125) 1 gX4_mergeByWeight_X3_resizeUpFrom rfl ⟨rfl, rfl⟩ (by decide +kernel) ⟨Nat.le_of_ble_eq_true rfl, Nat.le_of_ble_eq_true rfl⟩ 0 3 rfl rfl rfl (Nat.le_of_ble_eq_true rfl) ⟨Nat.zero_le _, Nat.zero_le _⟩ rfl rfl (by rfl) dX4_mergeByWeight_125 ?_
    cases h
    rw [hZ]
    exact xw_vret C hr dX4_mergeByWeight_128
  have hJ99 : ∀ (v3 : Int32), ∀ (v4 : Int32), ∀ (v5 : Int32), ∀ (y : Ob), fX4_mergeByWeight_J99 v3 v4 v5 y = some r → XW E p l e rmX4_mergeByWeight s m args below meth c Z A 0 0 (w4 E o q u ad bd x y z) 99 7 [(0, .ref o), (3, .int v3), (4, .int v4), (5, .int v5)] [] := by
    intro v3 v4 v5 y h
    rw [fX4_mergeByWeight_J99] at h
    refine xw_aload_n C dX4_mergeByWeight_99 rfl 0 rfl ?_
    refine xw_get C in4 0 rfl rfl 1 (by decide) m18 rfl rfl dX4_mergeByWeight_100 ?_
    refine xw_iload_n C dX4_mergeByWeight_103 rfl 1 rfl ?_
    refine xw_iconst C (-1) dX4_mergeByWeight_104 (by decide) ?_
    refine xw_icmp_ne C 113 dX4_mergeByWeight_105 (by decide) (fun c105 => ?_) (fun c105 => ?_)
    · have h := px_f c105 h
      refine xw_iload_n C dX4_mergeByWeight_113 rfl 1 rfl ?_
      refine xw_perm [0, 3] rfl ?_
      exact hJ114 _ _ _ h
    · have h := px_t c105 h
      refine xw_iload C dX4_mergeByWeight_108 2 rfl ?_
      refine xw_goto C 114 dX4_mergeByWeight_110 (by decide) ?_
      refine xw_perm [0, 3] rfl ?_
      exact hJ114 _ _ _ h
  have hL11 : ∀ n : Nat, ∀ (v3 : Int32), ∀ (v4 : Int32), ∀ (v5 : Int32), ∀ (v6 : Int32), ∀ (y : Ob), fX4_mergeByWeight_L11 n v3 v4 v5 v6 y = some r → XW E p l e rmX4_mergeByWeight s m args below meth c Z A 0 0 (w4 E o q u ad bd x y z) 11 7 [(0, .ref o), (3, .int v3), (4, .int v4), (5, .int v5), (6, .int v6)] [] := by
    intro n
    induction n with
    | zero =>
      intro v3 v4 v5 v6 y h
      rw [fX4_mergeByWeight_L11] at h
      cases h
    | succ n ih =>
      intro v3 v4 v5 v6 y h
      rw [fX4_mergeByWeight_L11] at h
      refine xw_iload C dX4_mergeByWeight_11 4 rfl ?_
      refine xw_sipush C (128) dX4_mergeByWeight_13 (by decide) ?_
      refine xw_icmp_ge C 99 dX4_mergeByWeight_16 (by decide) (fun c16 => ?_) (fun c16 => ?_)
      · have h := px_t c16 h
        refine xw_perm [0, 1, 2, 3] rfl ?_
        exact hJ99 _ _ _ _ h
      · have h := px_f c16 h
        refine xw_iload_n C dX4_mergeByWeight_19 rfl 1 rfl ?_
        refine xw_iconst C (-1) dX4_mergeByWeight_20 (by decide) ?_
        refine xw_icmp_eq C 99 dX4_mergeByWeight_21 (by decide) (fun c21 => ?_) (fun c21 => ?_)
        · have h := px_t c21 h
          refine xw_perm [0, 1, 2, 3] rfl ?_
          exact hJ99 _ _ _ _ h
        · have h := px_f c21 h
          refine xw_iload C dX4_mergeByWeight_24 2 rfl ?_
          refine xw_iconst C (-1) dX4_mergeByWeight_26 (by decide) ?_
          refine xw_icmp_eq C 99 dX4_mergeByWeight_27 (by decide) (fun c27 => ?_) (fun c27 => ?_)
          · have h := px_t c27 h
            refine xw_perm [0, 1, 2, 3] rfl ?_
            exact hJ99 _ _ _ _ h
          · have h := px_f c27 h
            refine xw_iload_n C dX4_mergeByWeight_30 rfl 1 rfl ?_
            obtain ⟨q31, eq31, h⟩ := px_b h
            refine xw_callNI (w' := w4 E o q u ad bd x y z) (u := []) (v := w4 E o q u ad bd x y z) C (ok_X5_weight  eq31) 1 gX4_mergeByWeight_X5_weight_n113 rfl ⟨rfl, rfl⟩ (by decide +kernel) (by decide +kernel) (by decide +kernel) (by decide +kernel) ⟨Nat.le_of_ble_eq_true rfl, Nat.le_of_ble_eq_true rfl⟩ rfl (Nat.le_of_ble_eq_true rfl) ⟨Nat.zero_le _, Nat.zero_le _⟩ rfl rfl rfl dX4_mergeByWeight_31 ?_
            refine xw_iload C dX4_mergeByWeight_34 2 rfl ?_
            obtain ⟨q36, eq36, h⟩ := px_b h
            refine xw_callNI (w' := w4 E o q u ad bd x y z) (u := []) (v := w4 E o q u ad bd x y z) C (ok_X5_weight  eq36) 1 gX4_mergeByWeight_X5_weight_n113 rfl ⟨rfl, rfl⟩ (by decide +kernel) (by decide +kernel) (by decide +kernel) (by decide +kernel) ⟨Nat.le_of_ble_eq_true rfl, Nat.le_of_ble_eq_true rfl⟩ rfl (Nat.le_of_ble_eq_true rfl) ⟨Nat.zero_le _, Nat.zero_le _⟩ rfl rfl rfl dX4_mergeByWeight_36 ?_
            refine xw_icmp_le C 67 dX4_mergeByWeight_39 (by decide) (fun c39 => ?_) (fun c39 => ?_)
            · have h := px_t c39 h
              refine xw_aload_n C dX4_mergeByWeight_67 rfl 0 rfl ?_
              refine xw_get C in4 0 rfl rfl 1 (by decide) m18 rfl rfl dX4_mergeByWeight_68 ?_
              refine xw_iload C dX4_mergeByWeight_71 2 rfl ?_
              refine xw_iload C dX4_mergeByWeight_73 3 rfl ?_
              obtain ⟨q75, eq75, h⟩ := px_b h
              refine xw_callVV (w' := w4 E o q u ad bd x q75 z) (u := (w4 E o q u ad bd x y z).take 1) (v := (w4 E o q u ad bd x y z).drop 7) C (ok_X3_hang (o := q) (ad := ad) (x := y) eq75) 2 gX4_mergeByWeight_X3_hang rfl ⟨rfl, rfl⟩ (by decide +kernel) ⟨Nat.le_of_ble_eq_true rfl, Nat.le_of_ble_eq_true rfl⟩ 0 3 rfl rfl rfl (Nat.le_of_ble_eq_true rfl) ⟨Nat.zero_le _, Nat.zero_le _⟩ rfl rfl (by rfl) dX4_mergeByWeight_75 ?_
              refine xw_iload C dX4_mergeByWeight_78 2 rfl ?_
              refine xw_istore C dX4_mergeByWeight_80 (by decide) (lv' := [(5, .int v4), (0, .ref o), (3, .int v3), (4, .int v4), (6, .int v6)]) rfl ?_
              refine xw_aload_n C dX4_mergeByWeight_82 rfl 1 rfl ?_
              refine xw_get C in4 0 rfl rfl 1 (by decide) m18 rfl rfl dX4_mergeByWeight_83 ?_
              refine xw_iload C dX4_mergeByWeight_86 3 rfl ?_
              obtain ⟨q88, eq88, h⟩ := px_b h
              refine xw_callVI (w' := w4 E o q u ad bd x q75 z) (u := (w4 E o q u ad bd x q75 z).take 1) (v := (w4 E o q u ad bd x q75 z).drop 7) C (ok_X3_leftOf (o := q) (ad := ad) (x := q75) eq88) 1 gX4_mergeByWeight_X3_leftOf rfl ⟨rfl, rfl⟩ (by decide +kernel) ⟨Nat.le_of_ble_eq_true rfl, Nat.le_of_ble_eq_true rfl⟩ 0 3 rfl rfl rfl (Nat.le_of_ble_eq_true rfl) ⟨Nat.zero_le _, Nat.zero_le _⟩ rfl rfl (by rfl) dX4_mergeByWeight_88 ?_
              refine xw_istore C dX4_mergeByWeight_91 (by decide) (lv' := [(4, .int q88), (5, .int v4), (0, .ref o), (3, .int v3), (6, .int v6)]) rfl ?_
              refine xw_perm [2, 3, 0, 1, 4] rfl ?_
              exact hJ93 _ ih _ _ _ _ _ h
            · have h := px_f c39 h
              refine xw_aload_n C dX4_mergeByWeight_42 rfl 0 rfl ?_
              refine xw_get C in4 0 rfl rfl 1 (by decide) m18 rfl rfl dX4_mergeByWeight_43 ?_
              refine xw_iload_n C dX4_mergeByWeight_46 rfl 1 rfl ?_
              refine xw_iload C dX4_mergeByWeight_47 3 rfl ?_
              obtain ⟨q49, eq49, h⟩ := px_b h
              refine xw_callVV (w' := w4 E o q u ad bd x q49 z) (u := (w4 E o q u ad bd x y z).take 1) (v := (w4 E o q u ad bd x y z).drop 7) C (ok_X3_hang (o := q) (ad := ad) (x := y) eq49) 2 gX4_mergeByWeight_X3_hang rfl ⟨rfl, rfl⟩ (by decide +kernel) ⟨Nat.le_of_ble_eq_true rfl, Nat.le_of_ble_eq_true rfl⟩ 0 3 rfl rfl rfl (Nat.le_of_ble_eq_true rfl) ⟨Nat.zero_le _, Nat.zero_le _⟩ rfl rfl (by rfl) dX4_mergeByWeight_49 ?_
              refine xw_iload_n C dX4_mergeByWeight_52 rfl 1 rfl ?_
              refine xw_istore C dX4_mergeByWeight_53 (by decide) (lv' := [(5, .int v3), (0, .ref o), (3, .int v3), (4, .int v4), (6, .int v6)]) rfl ?_
              refine xw_aload_n C dX4_mergeByWeight_55 rfl 1 rfl ?_
              refine xw_get C in4 0 rfl rfl 1 (by decide) m18 rfl rfl dX4_mergeByWeight_56 ?_
              refine xw_iload_n C dX4_mergeByWeight_59 rfl 2 rfl ?_
              obtain ⟨q60, eq60, h⟩ := px_b h
              refine xw_callVI (w' := w4 E o q u ad bd x q49 z) (u := (w4 E o q u ad bd x q49 z).take 1) (v := (w4 E o q u ad bd x q49 z).drop 7) C (ok_X3_rightOf (o := q) (ad := ad) (x := q49) eq60) 1 gX4_mergeByWeight_X3_rightOf rfl ⟨rfl, rfl⟩ (by decide +kernel) ⟨Nat.le_of_ble_eq_true rfl, Nat.le_of_ble_eq_true rfl⟩ 0 3 rfl rfl rfl (Nat.le_of_ble_eq_true rfl) ⟨Nat.zero_le _, Nat.zero_le _⟩ rfl rfl (by rfl) dX4_mergeByWeight_60 ?_
              refine xw_istore_n C dX4_mergeByWeight_63 rfl (by decide) (lv' := [(3, .int q60), (5, .int v3), (0, .ref o), (4, .int v4), (6, .int v6)]) rfl ?_
              refine xw_goto C 93 dX4_mergeByWeight_64 (by decide) ?_
              refine xw_perm [2, 0, 3, 1, 4] rfl ?_
              exact hJ93 _ ih _ _ _ _ _ h
  rw [fX4_mergeByWeight] at hf
  have h := hf
  refine xw_iload_n C dX4_mergeByWeight_0 rfl 1 rfl ?_
  refine xw_istore_n C dX4_mergeByWeight_1 rfl (by decide) (lv' := [(3, .int p1), (0, .ref o), (1, .int p1), (2, .int p2)]) rfl ?_
  refine xw_iload_n C dX4_mergeByWeight_2 rfl 3 rfl ?_
  refine xw_istore C dX4_mergeByWeight_3 (by decide) (lv' := [(4, .int p2), (3, .int p1), (0, .ref o), (1, .int p1), (2, .int p2)]) rfl ?_
  refine xw_iconst C (-1) dX4_mergeByWeight_5 (by decide) ?_
  refine xw_istore C dX4_mergeByWeight_6 (by decide) (lv' := [(5, .int (-1)), (4, .int p2), (3, .int p1), (0, .ref o), (1, .int p1), (2, .int p2)]) rfl ?_
  refine xw_iconst C (0) dX4_mergeByWeight_8 (by decide) ?_
  refine xw_istore C dX4_mergeByWeight_9 (by decide) (lv' := [(6, .int (0)), (5, .int (-1)), (4, .int p2), (3, .int p1), (0, .ref o), (1, .int p1), (2, .int p2)]) rfl ?_
  refine xw_perm [4, 3, 2, 1, 0] rfl ?_
  exact hL11 _ _ _ _ _ _ h
def fX4_takeOver_J75 (v2 : Int32) (v3 : Int32) (x : Ob) (y : Ob) (y1 : Ob) : Option (Ob × Ob) :=
  (if v3 = (-1) then
    some (y, y1)
  else
    Option.bind (fX3_greatestUnder v2 y) (fun q85 =>
    Option.bind (fX4_raiseToRoot q85 y) (fun q93 =>
    Option.bind (fX3_hang v3 q85 q93) (fun q103 =>
    Option.bind (fX3_resizeUpFrom q85 q103) (fun q112 =>
    some (q112, y1))))))
def fX4_takeOver (x : Ob) (y : Ob) (y1 : Ob) : Option (Ob × Ob) :=
  px_let ((y.1 5) : Int32) (fun b7 =>
  px_let ((y1.1 5) : Int32) (fun b15 =>
  Option.bind (fX3_moveKeys (0) y1 y) (fun q25 =>
  px_let (ob_i q25.1 5 (-1)) (fun y1_33 =>
  (if b7 = (-1) then
    Option.bind (fX3_hang b15 (-1) q25.2) (fun q47 =>
    some (q47, y1_33))
  else
    (if b15 = (-1) then
      fX4_takeOver_J75 b7 b15 x q25.2 y1_33
    else
      (if (x.1 0) = (5) then
        Option.bind (fX4_mergeByWeight b7 b15 q25.2) (fun q69 =>
        some (q69, y1_33))
      else
        fX4_takeOver_J75 b7 b15 x q25.2 y1_33)))))))
abbrev rmX4_takeOver : Room := { frames := 4, cells := 0, slots := 0, locals := 92 }
set_option maxHeartbeats 4000000 in
set_option maxRecDepth 100000 in
theorem ok_X4_takeOver {l : Launch} {E : En} {o : Nat} {q : Nat} {u : Nat} {ad : (Nat → Nat)} {bd : (Nat → Nat)} {o1 : Nat} {q1 : Nat} {u1 : Nat} {ad1 : (Nat → Nat)} {bd1 : (Nat → Nat)} {x : Ob} {y : Ob} {z : Ob} {x1 : Ob} {y1 : Ob} {z1 : Ob} {r : Ob × Ob} (hf : fX4_takeOver x y y1 = some r) : CV l yX4_takeOver wsX4_takeOver (rmX4_takeOver) [.ref o, .ref o1] E (w4 E o q u ad bd x y z ++ w4 E o1 q1 u1 ad1 bd1 x1 y1 z1) (w4 E o q u ad bd x r.1 z ++ w4 E o1 q1 u1 ad1 bd1 x1 r.2 z1) := by
  refine xc_V (by decide) rfl (Nat.le_of_ble_eq_true rfl) [(0, .ref o), (1, .ref o1)] rfl (fun p e s m below meth c A C hr => ?_)
  generalize ([.ref o, .ref o1] : List Value).toArray = args at C ⊢
  obtain ⟨Z, hZ⟩ : ∃ Z, Z = ZV E (w4 E o q u ad bd x r.1 z ++ w4 E o1 q1 u1 ad1 bd1 x1 r.2 z1) A below args s 0 0 := ⟨_, rfl⟩
  rw [← hZ]
  have in3 : ∀ w ∈ wsX30, w ∈ wsX4_takeOver := by decide +kernel
  have in4 : ∀ w ∈ wsX40, w ∈ wsX4_takeOver := by decide +kernel
  have m9 : Cond.fieldLink RX4 9 "TurningTrees$Tree" "kind" "I" ∈ wsX4_takeOver := by decide +kernel
  have m18 : Cond.fieldLink RX4 18 "TurningTrees$Tree" "shape" "LTurningTrees$Shape;" ∈ wsX4_takeOver := by decide +kernel
  have m85 : Cond.fieldLink RX4 85 "TurningTrees$Shape" "root" "I" ∈ wsX4_takeOver := by decide +kernel
  have hJ75 : ∀ (v2 : Int32), ∀ (v3 : Int32), ∀ (y : Ob), ∀ (y1 : Ob), fX4_takeOver_J75 v2 v3 x y y1 = some r → XW E p l e rmX4_takeOver s m args below meth c Z A 0 0 (w4 E o q u ad bd x y z ++ w4 E o1 q1 u1 ad1 bd1 x1 y1 z1) 75 5 [(0, .ref o), (2, .int v2), (3, .int v3)] [] := by
    intro v2 v3 y y1 h
    rw [fX4_takeOver_J75] at h
    refine xw_iload_n C dX4_takeOver_75 rfl 2 rfl ?_
    refine xw_iconst C (-1) dX4_takeOver_76 (by decide) ?_
    refine xw_icmp_eq C 115 dX4_takeOver_77 (by decide) (fun c77 => ?_) (fun c77 => ?_)
    · have h := px_t c77 h
      cases h
      rw [hZ]
      exact xw_vret C hr dX4_takeOver_115
    · have h := px_f c77 h
      refine xw_aload_n C dX4_takeOver_80 rfl 0 rfl ?_
      refine xw_get C in4 0 rfl rfl 1 (by decide) m18 rfl rfl dX4_takeOver_81 ?_
      refine xw_iload_n C dX4_takeOver_84 rfl 1 rfl ?_
      obtain ⟨q85, eq85, h⟩ := px_b h
      refine xw_callVI (w' := w4 E o q u ad bd x y z ++ w4 E o1 q1 u1 ad1 bd1 x1 y1 z1) (u := (w4 E o q u ad bd x y z ++ w4 E o1 q1 u1 ad1 bd1 x1 y1 z1).take 1) (v := (w4 E o q u ad bd x y z ++ w4 E o1 q1 u1 ad1 bd1 x1 y1 z1).drop 7) C (ok_X3_greatestUnder (o := q) (ad := ad) (x := y) eq85) 1 gX4_takeOver_X3_greatestUnder rfl ⟨rfl, rfl⟩ (by decide +kernel) ⟨Nat.le_of_ble_eq_true rfl, Nat.le_of_ble_eq_true rfl⟩ 0 3 rfl rfl rfl (Nat.le_of_ble_eq_true rfl) ⟨Nat.zero_le _, Nat.zero_le _⟩ rfl rfl (by rfl) dX4_takeOver_85 ?_
      refine xw_istore C dX4_takeOver_88 (by decide) (lv' := [(4, .int q85), (0, .ref o), (2, .int v2), (3, .int v3)]) rfl ?_
      refine xw_aload_n C dX4_takeOver_90 rfl 1 rfl ?_
      refine xw_iload C dX4_takeOver_91 0 rfl ?_
      obtain ⟨q93, eq93, h⟩ := px_b h
      refine xw_callVV (w' := w4 E o q u ad bd x q93 z ++ w4 E o1 q1 u1 ad1 bd1 x1 y1 z1) (u := (w4 E o q u ad bd x y z ++ w4 E o1 q1 u1 ad1 bd1 x1 y1 z1).take 0) (v := (w4 E o q u ad bd x y z ++ w4 E o1 q1 u1 ad1 bd1 x1 y1 z1).drop 9) C (ok_X4_raiseToRoot (o := o) (q := q) (u := u) (ad := ad) (bd := bd) (x := x) (y := y) (z := z) eq93) 1 gX4_takeOver_X4_raiseToRoot rfl ⟨rfl, rfl⟩ (by decide +kernel) ⟨Nat.le_of_ble_eq_true rfl, Nat.le_of_ble_eq_true rfl⟩ 0 4 rfl rfl rfl (Nat.le_of_ble_eq_true rfl) ⟨Nat.zero_le _, Nat.zero_le _⟩ rfl rfl (by rfl) dX4_takeOver_93 ?_
      refine xw_aload_n C dX4_takeOver_96 rfl 1 rfl ?_
      refine xw_get C in4 0 rfl rfl 1 (by decide) m18 rfl rfl dX4_takeOver_97 ?_
      refine xw_iload_n C dX4_takeOver_100 rfl 3 rfl ?_
      refine xw_iload C dX4_takeOver_101 0 rfl ?_
      obtain ⟨q103, eq103, h⟩ := px_b h
      refine xw_callVV (w' := w4 E o q u ad bd x q103 z ++ w4 E o1 q1 u1 ad1 bd1 x1 y1 z1) (u := (w4 E o q u ad bd x q93 z ++ w4 E o1 q1 u1 ad1 bd1 x1 y1 z1).take 1) (v := (w4 E o q u ad bd x q93 z ++ w4 E o1 q1 u1 ad1 bd1 x1 y1 z1).drop 7) C (ok_X3_hang (o := q) (ad := ad) (x := q93) eq103) 2 gX4_takeOver_X3_hang rfl ⟨rfl, rfl⟩ (by decide +kernel) ⟨Nat.le_of_ble_eq_true rfl, Nat.le_of_ble_eq_true rfl⟩ 0 3 rfl rfl rfl (Nat.le_of_ble_eq_true rfl) ⟨Nat.zero_le _, Nat.zero_le _⟩ rfl rfl (by rfl) dX4_takeOver_103 ?_
      refine xw_aload_n C dX4_takeOver_106 rfl 1 rfl ?_
      refine xw_get C in4 0 rfl rfl 1 (by decide) m18 rfl rfl dX4_takeOver_107 ?_
      refine xw_iload C dX4_takeOver_110 0 rfl ?_
      obtain ⟨q112, eq112, h⟩ := px_b h
      refine xw_callVV (w' := w4 E o q u ad bd x q112 z ++ w4 E o1 q1 u1 ad1 bd1 x1 y1 z1) (u := (w4 E o q u ad bd x q103 z ++ w4 E o1 q1 u1 ad1 bd1 x1 y1 z1).take 1) (v := (w4 E o q u ad bd x q103 z ++ w4 E o1 q1 u1 ad1 bd1 x1 y1 z1).drop 7) C (ok_X3_resizeUpFrom (o := q) (ad := ad) (x := q103) eq112) 1 gX4_takeOver_X3_resizeUpFrom rfl ⟨rfl, rfl⟩ (by decide +kernel) ⟨Nat.le_of_ble_eq_true rfl, Nat.le_of_ble_eq_true rfl⟩ 0 3 rfl rfl rfl (Nat.le_of_ble_eq_true rfl) ⟨Nat.zero_le _, Nat.zero_le _⟩ rfl rfl (by rfl) dX4_takeOver_112 ?_
      cases h
      rw [hZ]
      exact xw_vret C hr dX4_takeOver_115
  rw [fX4_takeOver] at hf
  have h := hf
  refine xw_aload_n C dX4_takeOver_0 rfl 0 rfl ?_
  refine xw_get C in4 0 rfl rfl 1 (by decide) m18 rfl rfl dX4_takeOver_1 ?_
  refine xw_get C in3 1 rfl rfl 5 (by decide) m85 rfl rfl dX4_takeOver_4 ?_
  refine xw_topi (fun b7 eb7 => ?_)
  have h := px_v h b7 eb7
  refine xw_istore_n C dX4_takeOver_7 rfl (by decide) (lv' := [(2, .int b7), (0, .ref o), (1, .ref o1)]) rfl ?_
  refine xw_aload_n C dX4_takeOver_8 rfl 2 rfl ?_
  refine xw_get C in4 9 rfl rfl 1 (by decide) m18 rfl rfl dX4_takeOver_9 ?_
  refine xw_get C in3 10 rfl rfl 5 (by decide) m85 rfl rfl dX4_takeOver_12 ?_
  refine xw_topi (fun b15 eb15 => ?_)
  have h := px_v h b15 eb15
  refine xw_istore_n C dX4_takeOver_15 rfl (by decide) (lv' := [(3, .int b15), (2, .int b7), (0, .ref o), (1, .ref o1)]) rfl ?_
  refine xw_aload_n C dX4_takeOver_16 rfl 3 rfl ?_
  refine xw_get C in4 9 rfl rfl 1 (by decide) m18 rfl rfl dX4_takeOver_17 ?_
  refine xw_iconst C (0) dX4_takeOver_20 (by decide) ?_
  refine xw_aload_n C dX4_takeOver_21 rfl 2 rfl ?_
  refine xw_get C in4 0 rfl rfl 1 (by decide) m18 rfl rfl dX4_takeOver_22 ?_
  obtain ⟨q25, eq25, h⟩ := px_b h
  refine xw_world (w2 := w3 E q1 ad1 y1 ++ w3 E q ad y ++ (wT o q u x ++ w2 E u bd z ++ wT o1 q1 u1 x1 ++ w2 E u1 bd1 z1)) [10, 11, 12, 13, 14, 15, 1, 2, 3, 4, 5, 6, 0, 7, 8, 9, 16, 17] rfl rfl rfl ?_
  refine xw_callVV (w' := w3 E q1 ad1 q25.1 ++ w3 E q ad q25.2 ++ (wT o q u x ++ w2 E u bd z ++ wT o1 q1 u1 x1 ++ w2 E u1 bd1 z1)) (u := []) (v := wT o q u x ++ w2 E u bd z ++ wT o1 q1 u1 x1 ++ w2 E u1 bd1 z1) C (ok_X3_moveKeys (o := q1) (ad := ad1) (o1 := q) (ad1 := ad) (x := y1) (x1 := y) eq25) 2 gX4_takeOver_X3_moveKeys rfl ⟨rfl, rfl⟩ (by decide +kernel) ⟨Nat.le_of_ble_eq_true rfl, Nat.le_of_ble_eq_true rfl⟩ 0 3 rfl rfl rfl (Nat.le_of_ble_eq_true rfl) ⟨Nat.zero_le _, Nat.zero_le _⟩ rfl rfl rfl dX4_takeOver_25 ?_
  refine xw_world (w2 := w4 E o q u ad bd x q25.2 z ++ w4 E o1 q1 u1 ad1 bd1 x1 q25.1 z1) [12, 6, 7, 8, 9, 10, 11, 13, 14, 15, 0, 1, 2, 3, 4, 5, 16, 17] rfl rfl rfl ?_
  refine xw_aload_n C dX4_takeOver_28 rfl 3 rfl ?_
  refine xw_get C in4 9 rfl rfl 1 (by decide) m18 rfl rfl dX4_takeOver_29 ?_
  refine xw_iconst C (-1) dX4_takeOver_32 (by decide) ?_
  refine px_n h (fun y1_33 ey1_33 h => ?_)
  refine xw_put (w' := w4 E o q u ad bd x q25.2 z ++ w4 E o1 q1 u1 ad1 bd1 x1 y1_33 z1) C in3 tyX3 tyX3_ok nmX3 10 rfl rfl 5 (by decide) m85 rfl rfl rfl (Nat.le_of_ble_eq_true rfl) (by rw [ey1_33]; rfl) dX4_takeOver_33 ?_
  refine xw_iload_n C dX4_takeOver_36 rfl 1 rfl ?_
  refine xw_iconst C (-1) dX4_takeOver_37 (by decide) ?_
  refine xw_icmp_ne C 53 dX4_takeOver_38 (by decide) (fun c38 => ?_) (fun c38 => ?_)
  · have h := px_f c38 h
    refine xw_iload_n C dX4_takeOver_53 rfl 0 rfl ?_
    refine xw_iconst C (-1) dX4_takeOver_54 (by decide) ?_
    refine xw_icmp_eq C 75 dX4_takeOver_55 (by decide) (fun c55 => ?_) (fun c55 => ?_)
    · have h := px_t c55 h
      refine xw_perm [2, 1, 0] rfl ?_
      exact hJ75 _ _ _ _ h
    · have h := px_f c55 h
      refine xw_aload_n C dX4_takeOver_58 rfl 2 rfl ?_
      refine xw_get C in4 0 rfl rfl 0 (by decide) m9 rfl rfl dX4_takeOver_59 ?_
      refine xw_iconst C (5) dX4_takeOver_62 (by decide) ?_
      refine xw_icmp_ne C 75 dX4_takeOver_63 (by decide) (fun c63 => ?_) (fun c63 => ?_)
      · have h := px_f c63 h
        refine xw_perm [2, 1, 0] rfl ?_
        exact hJ75 _ _ _ _ h
      · have h := px_t c63 h
        refine xw_aload_n C dX4_takeOver_66 rfl 2 rfl ?_
        refine xw_iload_n C dX4_takeOver_67 rfl 1 rfl ?_
        refine xw_iload_n C dX4_takeOver_68 rfl 0 rfl ?_
        obtain ⟨q69, eq69, h⟩ := px_b h
        refine xw_callVV (w' := w4 E o q u ad bd x q69 z ++ w4 E o1 q1 u1 ad1 bd1 x1 y1_33 z1) (u := (w4 E o q u ad bd x q25.2 z ++ w4 E o1 q1 u1 ad1 bd1 x1 y1_33 z1).take 0) (v := (w4 E o q u ad bd x q25.2 z ++ w4 E o1 q1 u1 ad1 bd1 x1 y1_33 z1).drop 9) C (ok_X4_mergeByWeight (o := o) (q := q) (u := u) (ad := ad) (bd := bd) (x := x) (y := q25.2) (z := z) eq69) 2 gX4_takeOver_X4_mergeByWeight rfl ⟨rfl, rfl⟩ (by decide +kernel) ⟨Nat.le_of_ble_eq_true rfl, Nat.le_of_ble_eq_true rfl⟩ 0 4 rfl rfl rfl (Nat.le_of_ble_eq_true rfl) ⟨Nat.zero_le _, Nat.zero_le _⟩ rfl rfl (by rfl) dX4_takeOver_69 ?_
        refine xw_goto C 115 dX4_takeOver_72 (by decide) ?_
        cases h
        rw [hZ]
        exact xw_vret C hr dX4_takeOver_115
  · have h := px_t c38 h
    refine xw_aload_n C dX4_takeOver_41 rfl 2 rfl ?_
    refine xw_get C in4 0 rfl rfl 1 (by decide) m18 rfl rfl dX4_takeOver_42 ?_
    refine xw_iload_n C dX4_takeOver_45 rfl 0 rfl ?_
    refine xw_iconst C (-1) dX4_takeOver_46 (by decide) ?_
    obtain ⟨q47, eq47, h⟩ := px_b h
    refine xw_callVV (w' := w4 E o q u ad bd x q47 z ++ w4 E o1 q1 u1 ad1 bd1 x1 y1_33 z1) (u := (w4 E o q u ad bd x q25.2 z ++ w4 E o1 q1 u1 ad1 bd1 x1 y1_33 z1).take 1) (v := (w4 E o q u ad bd x q25.2 z ++ w4 E o1 q1 u1 ad1 bd1 x1 y1_33 z1).drop 7) C (ok_X3_hang (o := q) (ad := ad) (x := q25.2) eq47) 2 gX4_takeOver_X3_hang rfl ⟨rfl, rfl⟩ (by decide +kernel) ⟨Nat.le_of_ble_eq_true rfl, Nat.le_of_ble_eq_true rfl⟩ 0 3 rfl rfl rfl (Nat.le_of_ble_eq_true rfl) ⟨Nat.zero_le _, Nat.zero_le _⟩ rfl rfl (by rfl) dX4_takeOver_47 ?_
    refine xw_goto C 115 dX4_takeOver_50 (by decide) ?_
    cases h
    rw [hZ]
    exact xw_vret C hr dX4_takeOver_115
