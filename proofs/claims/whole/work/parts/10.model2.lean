def fX6_makesEven_J36 (v1 : Int32) (v2 : Int32) (v3 : Int32) (s0 : Int32) (x : Ob) : Option (Ob) :=
  px_let (ob_i x 15 (0)) (fun x_40 =>
  Option.bind (fX6_sorts RD v1 v2 x_40) (fun q46 =>
  Option.bind (fX6_even RD v1 (0) ((q46.1 15) - (1)) q46) (fun q58 =>
  px_let (q58.1 : Int32) (fun b61 =>
  ix (((64) * v1) + b61) 512 (fun j75 =>
  px_let (ob_a q58.2 4 j75 v3) (fun x_75 =>
  (if 0 ≤ v3 then
    (if s0 = 0 then
      ix (((64) * v1) + v3) 512 (fun j136 =>
      px_let (ob_a x_75 6 j136 b61) (fun x_136 =>
      some x_136))
    else
      ix (((64) * v1) + v3) 512 (fun j120 =>
      px_let (ob_a x_75 5 j120 b61) (fun x_120 =>
      some x_120)))
  else
    ix v1 8 (fun j87 =>
    px_let (ob_a x_75 3 j87 b61) (fun x_87 =>
    ix v1 8 (fun j98 =>
    ix v1 8 (fun j99 =>
    px_let (ob_a x_87 11 j99 (x_87.2 8 j98)) (fun x_99 =>
    some x_99))))))))))))
def fX6_makesEven_J35 (v1 : Int32) (v2 : Int32) (v3 : Int32) (x : Ob) : Option (Ob) :=
  fX6_makesEven_J36 v1 v2 v3 (0) x
def fX6_makesEven (p1 : Int32) (p2 : Int32) (x : Ob) : Option (Ob) :=
  ix (((64) * p1) + p2) 512 (fun j10 =>
  px_let ((x.2 4 j10) : Int32) (fun b11 =>
  (if b11 < 0 then
    fX6_makesEven_J35 p1 p2 b11 x
  else
    ix (((64) * p1) + b11) 512 (fun j26 =>
    (if (x.2 5 j26) = p2 then
      fX6_makesEven_J36 p1 p2 b11 (1) x
    else
      fX6_makesEven_J35 p1 p2 b11 x)))))
abbrev rmX6_makesEven : Room := { frames := 72, cells := 0, slots := 0, locals := 1727 }
set_option maxHeartbeats 4000000 in
set_option maxRecDepth 100000 in
theorem ok_X6_makesEven {l : Launch} {E : En} {o : Nat} {ad : (Nat → Nat)} {p1 : Int32} {p2 : Int32} {x : Ob} {r : Ob} (hf : fX6_makesEven p1 p2 x = some r) : CV l yX6_makesEven wsX6_makesEven (rmX6_makesEven) [.ref o, .int p1, .int p2] E (w6 E o ad x) (w6 E o ad r) := by
  refine xc_V (by decide) rfl (Nat.le_of_ble_eq_true rfl) [(0, .ref o), (1, .int p1), (2, .int p2)] rfl (fun p e s m below meth c A C hr => ?_)
  generalize ([.ref o, .int p1, .int p2] : List Value).toArray = args at C ⊢
  obtain ⟨Z, hZ⟩ : ∃ Z, Z = ZV E (w6 E o ad r) A below args s 0 0 := ⟨_, rfl⟩
  rw [← hZ]
  have in6 : ∀ w ∈ wsX60, w ∈ wsX6_makesEven := by decide +kernel
  have m13 : Cond.fieldLink RX6 13 "TurningTreesModel" "root" "[I" ∈ wsX6_makesEven := by decide +kernel
  have m16 : Cond.fieldLink RX6 16 "TurningTreesModel" "above" "[I" ∈ wsX6_makesEven := by decide +kernel
  have m19 : Cond.fieldLink RX6 19 "TurningTreesModel" "left" "[I" ∈ wsX6_makesEven := by decide +kernel
  have m22 : Cond.fieldLink RX6 22 "TurningTreesModel" "right" "[I" ∈ wsX6_makesEven := by decide +kernel
  have m29 : Cond.fieldLink RX6 29 "TurningTreesModel" "many" "[I" ∈ wsX6_makesEven := by decide +kernel
  have m38 : Cond.fieldLink RX6 38 "TurningTreesModel" "most" "[I" ∈ wsX6_makesEven := by decide +kernel
  have m141 : Cond.fieldLink RX6 141 "TurningTreesModel" "sortedMany" "I" ∈ wsX6_makesEven := by decide +kernel
  have hJ36 : ∀ (v1 : Int32), ∀ (v2 : Int32), ∀ (v3 : Int32), ∀ (s0 : Int32), ∀ (x : Ob), fX6_makesEven_J36 v1 v2 v3 s0 x = some r → XW E p l e rmX6_makesEven s m args below meth c Z A 0 0 (w6 E o ad x) 36 6 [(0, .ref o), (1, .int v1), (2, .int v2), (3, .int v3)] [.int s0] := by
    intro v1 v2 v3 s0 x h
    rw [fX6_makesEven_J36] at h
    refine xw_istore C dX6_makesEven_36 (by decide) (lv' := [(4, .int s0), (0, .ref o), (1, .int v1), (2, .int v2), (3, .int v3)]) rfl ?_
    refine xw_aload_n C dX6_makesEven_38 rfl 1 rfl ?_
    refine xw_iconst C (0) dX6_makesEven_39 (by decide) ?_
    refine px_n h (fun x_40 ex_40 h => ?_)
    refine xw_put (w' := w6 E o ad x_40) C in6 tyX6 tyX6_ok nmX6 0 rfl rfl 15 (by decide) m141 rfl rfl rfl (Nat.le_of_ble_eq_true rfl) (by rw [ex_40]; rfl) dX6_makesEven_40 ?_
    refine xw_aload_n C dX6_makesEven_43 rfl 1 rfl ?_
    refine xw_iload_n C dX6_makesEven_44 rfl 2 rfl ?_
    refine xw_iload_n C dX6_makesEven_45 rfl 3 rfl ?_
    obtain ⟨q46, eq46, h⟩ := px_b h
    refine xw_callVV (w' := w6 E o ad q46) (u := []) (v := []) C (ok_X6_sorts (o := o) (ad := ad) RD eq46) 2 gX6_makesEven_X6_sorts rfl ⟨rfl, rfl⟩ (by decide +kernel) ⟨Nat.le_of_ble_eq_true rfl, Nat.le_of_ble_eq_true rfl⟩ 0 6 rfl rfl rfl (Nat.le_of_ble_eq_true rfl) ⟨Nat.zero_le _, Nat.zero_le _⟩ rfl xe0 xe0.symm dX6_makesEven_46 ?_
    refine xw_aload_n C dX6_makesEven_49 rfl 1 rfl ?_
    refine xw_iload_n C dX6_makesEven_50 rfl 2 rfl ?_
    refine xw_iconst C (0) dX6_makesEven_51 (by decide) ?_
    refine xw_aload_n C dX6_makesEven_52 rfl 1 rfl ?_
    refine xw_get C in6 0 rfl rfl 15 (by decide) m141 rfl rfl dX6_makesEven_53 ?_
    refine xw_iconst C (1) dX6_makesEven_56 (by decide) ?_
    refine xw_isub C dX6_makesEven_57 ?_
    obtain ⟨q58, eq58, h⟩ := px_b h
    refine xw_callVI (w' := w6 E o ad q58.2) (u := []) (v := []) C (ok_X6_even (o := o) (ad := ad) RD eq58) 3 gX6_makesEven_X6_even rfl ⟨rfl, rfl⟩ (by decide +kernel) ⟨Nat.le_of_ble_eq_true rfl, Nat.le_of_ble_eq_true rfl⟩ 0 6 rfl rfl rfl (Nat.le_of_ble_eq_true rfl) ⟨Nat.zero_le _, Nat.zero_le _⟩ rfl xe0 xe0.symm dX6_makesEven_58 ?_
    refine xw_topi (fun b61 eb61 => ?_)
    have h := px_v h b61 eb61
    refine xw_istore C dX6_makesEven_61 (by decide) (lv' := [(5, .int b61), (4, .int s0), (0, .ref o), (1, .int v1), (2, .int v2), (3, .int v3)]) rfl ?_
    refine xw_aload_n C dX6_makesEven_63 rfl 2 rfl ?_
    refine xw_get C in6 0 rfl rfl 4 (by decide) m16 rfl rfl dX6_makesEven_64 ?_
    refine xw_bipush C (64) dX6_makesEven_67 (by decide) ?_
    refine xw_iload_n C dX6_makesEven_69 rfl 3 rfl ?_
    refine xw_imul C dX6_makesEven_70 ?_
    refine xw_iload C dX6_makesEven_71 0 rfl ?_
    refine xw_iadd C dX6_makesEven_73 ?_
    refine xw_iload_n C dX6_makesEven_74 rfl 5 rfl ?_
    obtain ⟨g75, h⟩ := px_x h
    refine px_n h (fun x_75 ex_75 h => ?_)
    refine xw_iast (w' := w6 E o ad x_75) C 3 rfl g75 (by rw [ex_75]; rfl) dX6_makesEven_75 ?_
    refine xw_iload_n C dX6_makesEven_76 rfl 5 rfl ?_
    refine xw_if_ge C 103 dX6_makesEven_77 (by decide) (fun c77 => ?_) (fun c77 => ?_)
    · have h := px_t c77 h
      refine xw_iload C dX6_makesEven_103 1 rfl ?_
      refine xw_if_eq C 124 dX6_makesEven_105 (by decide) (fun c105 => ?_) (fun c105 => ?_)
      · have h := px_t c105 h
        refine xw_aload_n C dX6_makesEven_124 rfl 2 rfl ?_
        refine xw_get C in6 0 rfl rfl 6 (by decide) m22 rfl rfl dX6_makesEven_125 ?_
        refine xw_bipush C (64) dX6_makesEven_128 (by decide) ?_
        refine xw_iload_n C dX6_makesEven_130 rfl 3 rfl ?_
        refine xw_imul C dX6_makesEven_131 ?_
        refine xw_iload_n C dX6_makesEven_132 rfl 5 rfl ?_
        refine xw_iadd C dX6_makesEven_133 ?_
        refine xw_iload C dX6_makesEven_134 0 rfl ?_
        obtain ⟨g136, h⟩ := px_x h
        refine px_n h (fun x_136 ex_136 h => ?_)
        refine xw_iast (w' := w6 E o ad x_136) C 5 rfl g136 (by rw [ex_136]; rfl) dX6_makesEven_136 ?_
        cases h
        rw [hZ]
        exact xw_vret C hr dX6_makesEven_137
      · have h := px_f c105 h
        refine xw_aload_n C dX6_makesEven_108 rfl 2 rfl ?_
        refine xw_get C in6 0 rfl rfl 5 (by decide) m19 rfl rfl dX6_makesEven_109 ?_
        refine xw_bipush C (64) dX6_makesEven_112 (by decide) ?_
        refine xw_iload_n C dX6_makesEven_114 rfl 3 rfl ?_
        refine xw_imul C dX6_makesEven_115 ?_
        refine xw_iload_n C dX6_makesEven_116 rfl 5 rfl ?_
        refine xw_iadd C dX6_makesEven_117 ?_
        refine xw_iload C dX6_makesEven_118 0 rfl ?_
        obtain ⟨g120, h⟩ := px_x h
        refine px_n h (fun x_120 ex_120 h => ?_)
        refine xw_iast (w' := w6 E o ad x_120) C 4 rfl g120 (by rw [ex_120]; rfl) dX6_makesEven_120 ?_
        refine xw_goto C 137 dX6_makesEven_121 (by decide) ?_
        cases h
        rw [hZ]
        exact xw_vret C hr dX6_makesEven_137
    · have h := px_f c77 h
      refine xw_aload_n C dX6_makesEven_80 rfl 2 rfl ?_
      refine xw_get C in6 0 rfl rfl 3 (by decide) m13 rfl rfl dX6_makesEven_81 ?_
      refine xw_iload_n C dX6_makesEven_84 rfl 3 rfl ?_
      refine xw_iload C dX6_makesEven_85 0 rfl ?_
      obtain ⟨g87, h⟩ := px_x h
      refine px_n h (fun x_87 ex_87 h => ?_)
      refine xw_iast (w' := w6 E o ad x_87) C 2 rfl g87 (by rw [ex_87]; rfl) dX6_makesEven_87 ?_
      refine xw_aload_n C dX6_makesEven_88 rfl 2 rfl ?_
      refine xw_get C in6 0 rfl rfl 11 (by decide) m38 rfl rfl dX6_makesEven_89 ?_
      refine xw_iload_n C dX6_makesEven_92 rfl 3 rfl ?_
      refine xw_aload_n C dX6_makesEven_93 rfl 2 rfl ?_
      refine xw_get C in6 0 rfl rfl 8 (by decide) m29 rfl rfl dX6_makesEven_94 ?_
      refine xw_iload_n C dX6_makesEven_97 rfl 3 rfl ?_
      obtain ⟨g98, h⟩ := px_x h
      refine xw_iald C 7 rfl g98 dX6_makesEven_98 ?_
      obtain ⟨g99, h⟩ := px_x h
      refine px_n h (fun x_99 ex_99 h => ?_)
      refine xw_iast (w' := w6 E o ad x_99) C 10 rfl g99 (by rw [ex_99]; rfl) dX6_makesEven_99 ?_
      refine xw_goto C 137 dX6_makesEven_100 (by decide) ?_
      cases h
      rw [hZ]
      exact xw_vret C hr dX6_makesEven_137
  have hJ35 : ∀ (v1 : Int32), ∀ (v2 : Int32), ∀ (v3 : Int32), ∀ (x : Ob), fX6_makesEven_J35 v1 v2 v3 x = some r → XW E p l e rmX6_makesEven s m args below meth c Z A 0 0 (w6 E o ad x) 35 6 [(0, .ref o), (1, .int v1), (2, .int v2), (3, .int v3)] [] := by
    intro v1 v2 v3 x h
    rw [fX6_makesEven_J35] at h
    refine xw_iconst C (0) dX6_makesEven_35 (by decide) ?_
    exact hJ36 _ _ _ _ _ h
  rw [fX6_makesEven] at hf
  have h := hf
  refine xw_aload_n C dX6_makesEven_0 rfl 0 rfl ?_
  refine xw_get C in6 0 rfl rfl 4 (by decide) m16 rfl rfl dX6_makesEven_1 ?_
  refine xw_bipush C (64) dX6_makesEven_4 (by decide) ?_
  refine xw_iload_n C dX6_makesEven_6 rfl 1 rfl ?_
  refine xw_imul C dX6_makesEven_7 ?_
  refine xw_iload_n C dX6_makesEven_8 rfl 2 rfl ?_
  refine xw_iadd C dX6_makesEven_9 ?_
  obtain ⟨g10, h⟩ := px_x h
  refine xw_iald C 3 rfl g10 dX6_makesEven_10 ?_
  refine xw_topi (fun b11 eb11 => ?_)
  have h := px_v h b11 eb11
  refine xw_istore_n C dX6_makesEven_11 rfl (by decide) (lv' := [(3, .int b11), (0, .ref o), (1, .int p1), (2, .int p2)]) rfl ?_
  refine xw_iload_n C dX6_makesEven_12 rfl 0 rfl ?_
  refine xw_if_lt C 35 dX6_makesEven_13 (by decide) (fun c13 => ?_) (fun c13 => ?_)
  · have h := px_t c13 h
    refine xw_perm [1, 2, 3, 0] rfl ?_
    exact hJ35 _ _ _ _ h
  · have h := px_f c13 h
    refine xw_aload_n C dX6_makesEven_16 rfl 1 rfl ?_
    refine xw_get C in6 0 rfl rfl 5 (by decide) m19 rfl rfl dX6_makesEven_17 ?_
    refine xw_bipush C (64) dX6_makesEven_20 (by decide) ?_
    refine xw_iload_n C dX6_makesEven_22 rfl 2 rfl ?_
    refine xw_imul C dX6_makesEven_23 ?_
    refine xw_iload_n C dX6_makesEven_24 rfl 0 rfl ?_
    refine xw_iadd C dX6_makesEven_25 ?_
    obtain ⟨g26, h⟩ := px_x h
    refine xw_iald C 4 rfl g26 dX6_makesEven_26 ?_
    refine xw_iload_n C dX6_makesEven_27 rfl 3 rfl ?_
    refine xw_icmp_ne C 35 dX6_makesEven_28 (by decide) (fun c28 => ?_) (fun c28 => ?_)
    · have h := px_f c28 h
      refine xw_perm [1, 2, 3, 0] rfl ?_
      exact hJ35 _ _ _ _ h
    · have h := px_t c28 h
      refine xw_iconst C (1) dX6_makesEven_31 (by decide) ?_
      refine xw_goto C 36 dX6_makesEven_32 (by decide) ?_
      refine xw_perm [1, 2, 3, 0] rfl ?_
      exact hJ36 _ _ _ _ _ h
def fX6_balances_J95 (v1 : Int32) (v3 : Int32) (x : Ob) : Option (Ob) :=
  (if v3 < 0 then
    some x
  else
    Option.bind (fX6_makesEven v1 v3 x) (fun q102 =>
    some q102))
def fX6_balances_L67 : Nat → Int32 → Int32 → Ob → Option (Ob)
  | 0, _, _, _ => none
  | n + 1, v1, v3, x =>
  (if v3 < 0 then
    fX6_balances_J95 v1 v3 x
  else
    Option.bind (fX6_leans v1 v3 x) (fun q74 =>
    (if q74 = 0 then
      ix (((64) * v1) + v3) 512 (fun j90 =>
      px_let ((x.2 4 j90) : Int32) (fun b91 =>
      fX6_balances_L67 n v1 b91 x))
    else
      fX6_balances_J95 v1 v3 x)))
def fX6_balances_J35 (v1 : Int32) (v2 : Int32) (s0 : Int32) (s1 : Int32) (x : Ob) : Option (Ob) :=
  ix s0 8 (fun j35 =>
  px_let (ob_a x 11 j35 s1) (fun x_35 =>
  Option.bind (fX6_depthOf v1 v2 x_35) (fun q39 =>
  ix v1 8 (fun j47 =>
  Option.bind (fX6_isDeep q39 (x_35.2 8 j47)) (fun q48 =>
  (if q48 = 0 then
    some x_35
  else
    ix (((64) * v1) + v2) 512 (fun j65 =>
    px_let ((x_35.2 4 j65) : Int32) (fun b66 =>
    fX6_balances_L67 FU v1 b66 x_35))))))))
def fX6_balances (p1 : Int32) (p2 : Int32) (x : Ob) : Option (Ob) :=
  ix p1 8 (fun j10 =>
  ix p1 8 (fun j16 =>
  (if (x.2 8 j10) ≤ (x.2 11 j16) then
    ix p1 8 (fun j34 =>
    fX6_balances_J35 p1 p2 p1 ((x.2 11 j34)) x)
  else
    ix p1 8 (fun j25 =>
    fX6_balances_J35 p1 p2 p1 ((x.2 8 j25)) x))))
abbrev rmX6_balances : Room := { frames := 73, cells := 0, slots := 0, locals := 1752 }
set_option maxHeartbeats 4000000 in
set_option maxRecDepth 100000 in
theorem ok_X6_balances {l : Launch} {E : En} {o : Nat} {ad : (Nat → Nat)} {p1 : Int32} {p2 : Int32} {x : Ob} {r : Ob} (hf : fX6_balances p1 p2 x = some r) : CV l yX6_balances wsX6_balances (rmX6_balances) [.ref o, .int p1, .int p2] E (w6 E o ad x) (w6 E o ad r) := by
  refine xc_V (by decide) rfl (Nat.le_of_ble_eq_true rfl) [(0, .ref o), (1, .int p1), (2, .int p2)] rfl (fun p e s m below meth c A C hr => ?_)
  generalize ([.ref o, .int p1, .int p2] : List Value).toArray = args at C ⊢
  obtain ⟨Z, hZ⟩ : ∃ Z, Z = ZV E (w6 E o ad r) A below args s 0 0 := ⟨_, rfl⟩
  rw [← hZ]
  have in6 : ∀ w ∈ wsX60, w ∈ wsX6_balances := by decide +kernel
  have m16 : Cond.fieldLink RX6 16 "TurningTreesModel" "above" "[I" ∈ wsX6_balances := by decide +kernel
  have m29 : Cond.fieldLink RX6 29 "TurningTreesModel" "many" "[I" ∈ wsX6_balances := by decide +kernel
  have m38 : Cond.fieldLink RX6 38 "TurningTreesModel" "most" "[I" ∈ wsX6_balances := by decide +kernel
  have hJ95 : ∀ (v1 : Int32), ∀ (v3 : Int32), ∀ (x : Ob), fX6_balances_J95 v1 v3 x = some r → XW E p l e rmX6_balances s m args below meth c Z A 0 0 (w6 E o ad x) 95 4 [(0, .ref o), (1, .int v1), (3, .int v3)] [] := by
    intro v1 v3 x h
    rw [fX6_balances_J95] at h
    refine xw_iload_n C dX6_balances_95 rfl 2 rfl ?_
    refine xw_if_lt C 105 dX6_balances_96 (by decide) (fun c96 => ?_) (fun c96 => ?_)
    · have h := px_t c96 h
      cases h
      rw [hZ]
      exact xw_vret C hr dX6_balances_105
    · have h := px_f c96 h
      refine xw_aload_n C dX6_balances_99 rfl 0 rfl ?_
      refine xw_iload_n C dX6_balances_100 rfl 1 rfl ?_
      refine xw_iload_n C dX6_balances_101 rfl 2 rfl ?_
      obtain ⟨q102, eq102, h⟩ := px_b h
      refine xw_callVV (w' := w6 E o ad q102) (u := []) (v := []) C (ok_X6_makesEven (o := o) (ad := ad) (x := x) eq102) 2 gX6_balances_X6_makesEven rfl ⟨rfl, rfl⟩ (by decide +kernel) ⟨Nat.le_of_ble_eq_true rfl, Nat.le_of_ble_eq_true rfl⟩ 0 6 rfl rfl rfl (Nat.le_of_ble_eq_true rfl) ⟨Nat.zero_le _, Nat.zero_le _⟩ rfl xe0 xe0.symm dX6_balances_102 ?_
      cases h
      rw [hZ]
      exact xw_vret C hr dX6_balances_105
  have hL67 : ∀ n : Nat, ∀ (v1 : Int32), ∀ (v3 : Int32), ∀ (x : Ob), fX6_balances_L67 n v1 v3 x = some r → XW E p l e rmX6_balances s m args below meth c Z A 0 0 (w6 E o ad x) 67 4 [(0, .ref o), (1, .int v1), (3, .int v3)] [] := by
    intro n
    induction n with
    | zero =>
      intro v1 v3 x h
      rw [fX6_balances_L67] at h
      cases h
    | succ n ih =>
      intro v1 v3 x h
      rw [fX6_balances_L67] at h
      refine xw_iload_n C dX6_balances_67 rfl 2 rfl ?_
      refine xw_if_lt C 95 dX6_balances_68 (by decide) (fun c68 => ?_) (fun c68 => ?_)
      · have h := px_t c68 h
        exact hJ95 _ _ _ h
      · have h := px_f c68 h
        refine xw_aload_n C dX6_balances_71 rfl 0 rfl ?_
        refine xw_iload_n C dX6_balances_72 rfl 1 rfl ?_
        refine xw_iload_n C dX6_balances_73 rfl 2 rfl ?_
        obtain ⟨q74, eq74, h⟩ := px_b h
        refine xw_callVI (w' := w6 E o ad x) (u := []) (v := []) C (ok_X6_leans (o := o) (ad := ad) (x := x) eq74) 2 gX6_balances_X6_leans rfl ⟨rfl, rfl⟩ (by decide +kernel) ⟨Nat.le_of_ble_eq_true rfl, Nat.le_of_ble_eq_true rfl⟩ 0 6 rfl rfl rfl (Nat.le_of_ble_eq_true rfl) ⟨Nat.zero_le _, Nat.zero_le _⟩ rfl xe0 xe0.symm dX6_balances_74 ?_
        refine xw_if_ne C 95 dX6_balances_77 (by decide) (fun c77 => ?_) (fun c77 => ?_)
        · have h := px_f c77 h
          exact hJ95 _ _ _ h
        · have h := px_t c77 h
          refine xw_aload_n C dX6_balances_80 rfl 0 rfl ?_
          refine xw_get C in6 0 rfl rfl 4 (by decide) m16 rfl rfl dX6_balances_81 ?_
          refine xw_bipush C (64) dX6_balances_84 (by decide) ?_
          refine xw_iload_n C dX6_balances_86 rfl 1 rfl ?_
          refine xw_imul C dX6_balances_87 ?_
          refine xw_iload_n C dX6_balances_88 rfl 2 rfl ?_
          refine xw_iadd C dX6_balances_89 ?_
          obtain ⟨g90, h⟩ := px_x h
          refine xw_iald C 3 rfl g90 dX6_balances_90 ?_
          refine xw_topi (fun b91 eb91 => ?_)
          have h := px_v h b91 eb91
          refine xw_istore_n C dX6_balances_91 rfl (by decide) (lv' := [(3, .int b91), (0, .ref o), (1, .int v1)]) rfl ?_
          refine xw_goto C 67 dX6_balances_92 (by decide) ?_
          refine xw_perm [1, 2, 0] rfl ?_
          exact ih _ _ _ h
  have hJ35 : ∀ (v1 : Int32), ∀ (v2 : Int32), ∀ (s0 : Int32), ∀ (s1 : Int32), ∀ (x : Ob), fX6_balances_J35 v1 v2 s0 s1 x = some r → XW E p l e rmX6_balances s m args below meth c Z A 0 0 (w6 E o ad x) 35 4 [(0, .ref o), (1, .int v1), (2, .int v2)] [.int s1, .int s0, .ref (ad 11)] := by
    intro v1 v2 s0 s1 x h
    rw [fX6_balances_J35] at h
    obtain ⟨g35, h⟩ := px_x h
    refine px_n h (fun x_35 ex_35 h => ?_)
    refine xw_iast (w' := w6 E o ad x_35) C 10 rfl g35 (by rw [ex_35]; rfl) dX6_balances_35 ?_
    refine xw_aload_n C dX6_balances_36 rfl 0 rfl ?_
    refine xw_iload_n C dX6_balances_37 rfl 1 rfl ?_
    refine xw_iload_n C dX6_balances_38 rfl 2 rfl ?_
    obtain ⟨q39, eq39, h⟩ := px_b h
    refine xw_callVI (w' := w6 E o ad x_35) (u := []) (v := []) C (ok_X6_depthOf (o := o) (ad := ad) (x := x_35) eq39) 2 gX6_balances_X6_depthOf rfl ⟨rfl, rfl⟩ (by decide +kernel) ⟨Nat.le_of_ble_eq_true rfl, Nat.le_of_ble_eq_true rfl⟩ 0 6 rfl rfl rfl (Nat.le_of_ble_eq_true rfl) ⟨Nat.zero_le _, Nat.zero_le _⟩ rfl xe0 xe0.symm dX6_balances_39 ?_
    refine xw_aload_n C dX6_balances_42 rfl 0 rfl ?_
    refine xw_get C in6 0 rfl rfl 8 (by decide) m29 rfl rfl dX6_balances_43 ?_
    refine xw_iload_n C dX6_balances_46 rfl 1 rfl ?_
    obtain ⟨g47, h⟩ := px_x h
    refine xw_iald C 7 rfl g47 dX6_balances_47 ?_
    obtain ⟨q48, eq48, h⟩ := px_b h
    refine xw_callSI (w' := w6 E o ad x_35) (u := []) (v := w6 E o ad x_35) C (ok_X6_isDeep  eq48) 2 gX6_balances_X6_isDeep rfl ⟨rfl, rfl⟩ (by decide +kernel) ⟨Nat.le_of_ble_eq_true rfl, Nat.le_of_ble_eq_true rfl⟩ rfl (Nat.le_of_ble_eq_true rfl) ⟨Nat.zero_le _, Nat.zero_le _⟩ rfl rfl rfl dX6_balances_48 ?_
    refine xw_if_ne C 55 dX6_balances_51 (by decide) (fun c51 => ?_) (fun c51 => ?_)
    · have h := px_f c51 h
      refine xw_aload_n C dX6_balances_55 rfl 0 rfl ?_
      refine xw_get C in6 0 rfl rfl 4 (by decide) m16 rfl rfl dX6_balances_56 ?_
      refine xw_bipush C (64) dX6_balances_59 (by decide) ?_
      refine xw_iload_n C dX6_balances_61 rfl 1 rfl ?_
      refine xw_imul C dX6_balances_62 ?_
      refine xw_iload_n C dX6_balances_63 rfl 2 rfl ?_
      refine xw_iadd C dX6_balances_64 ?_
      obtain ⟨g65, h⟩ := px_x h
      refine xw_iald C 3 rfl g65 dX6_balances_65 ?_
      refine xw_topi (fun b66 eb66 => ?_)
      have h := px_v h b66 eb66
      refine xw_istore_n C dX6_balances_66 rfl (by decide) (lv' := [(3, .int b66), (0, .ref o), (1, .int v1), (2, .int v2)]) rfl ?_
      refine xw_perm [1, 2, 0] rfl ?_
      exact hL67 _ _ _ _ h
    · have h := px_t c51 h
      cases h
      rw [hZ]
      exact xw_vret C hr dX6_balances_54
  rw [fX6_balances] at hf
  have h := hf
  refine xw_aload_n C dX6_balances_0 rfl 0 rfl ?_
  refine xw_get C in6 0 rfl rfl 11 (by decide) m38 rfl rfl dX6_balances_1 ?_
  refine xw_iload_n C dX6_balances_4 rfl 1 rfl ?_
  refine xw_aload_n C dX6_balances_5 rfl 0 rfl ?_
  refine xw_get C in6 0 rfl rfl 8 (by decide) m29 rfl rfl dX6_balances_6 ?_
  refine xw_iload_n C dX6_balances_9 rfl 1 rfl ?_
  obtain ⟨g10, h⟩ := px_x h
  refine xw_iald C 7 rfl g10 dX6_balances_10 ?_
  refine xw_aload_n C dX6_balances_11 rfl 0 rfl ?_
  refine xw_get C in6 0 rfl rfl 11 (by decide) m38 rfl rfl dX6_balances_12 ?_
  refine xw_iload_n C dX6_balances_15 rfl 1 rfl ?_
  obtain ⟨g16, h⟩ := px_x h
  refine xw_iald C 10 rfl g16 dX6_balances_16 ?_
  refine xw_icmp_le C 29 dX6_balances_17 (by decide) (fun c17 => ?_) (fun c17 => ?_)
  · have h := px_t c17 h
    refine xw_aload_n C dX6_balances_29 rfl 0 rfl ?_
    refine xw_get C in6 0 rfl rfl 11 (by decide) m38 rfl rfl dX6_balances_30 ?_
    refine xw_iload_n C dX6_balances_33 rfl 1 rfl ?_
    obtain ⟨g34, h⟩ := px_x h
    refine xw_iald C 10 rfl g34 dX6_balances_34 ?_
    exact hJ35 _ _ _ _ _ h
  · have h := px_f c17 h
    refine xw_aload_n C dX6_balances_20 rfl 0 rfl ?_
    refine xw_get C in6 0 rfl rfl 8 (by decide) m29 rfl rfl dX6_balances_21 ?_
    refine xw_iload_n C dX6_balances_24 rfl 1 rfl ?_
    obtain ⟨g25, h⟩ := px_x h
    refine xw_iald C 7 rfl g25 dX6_balances_25 ?_
    refine xw_goto C 35 dX6_balances_26 (by decide) ?_
    exact hJ35 _ _ _ _ _ h
def fX6_actsAdded_L22 : Nat → Int32 → Int32 → Ob → Option (Ob)
  | 0, _, _, _ => none
  | n + 1, v1, v2, x =>
  ix v1 8 (fun j27 =>
  (if (x.2 2 j27) = (5) then
    ix (((64) * v1) + v2) 512 (fun j42 =>
    (if (x.2 4 j42) < 0 then
      some x
    else
      Option.bind (fX6_weight v2) (fun q47 =>
      ix (((64) * v1) + v2) 512 (fun j60 =>
      Option.bind (fX6_weight (x.2 4 j60)) (fun q61 =>
      (if q47 ≤ q61 then
        some x
      else
        Option.bind (fX6_turn v1 v2 x) (fun q70 =>
        fX6_actsAdded_L22 n v1 v2 q70)))))))
  else
    some x))
def fX6_actsAdded (p1 : Int32) (p2 : Int32) (x : Ob) : Option (Ob) :=
  Option.bind (fX6_acts p1 p2 x) (fun q3 =>
  ix p1 8 (fun j11 =>
  (if (q3.2 2 j11) = (4) then
    Option.bind (fX6_balances p1 p2 q3) (fun q19 =>
    fX6_actsAdded_L22 FU p1 p2 q19)
  else
    fX6_actsAdded_L22 FU p1 p2 q3)))
abbrev rmX6_actsAdded : Room := { frames := 74, cells := 0, slots := 0, locals := 1775 }
set_option maxHeartbeats 4000000 in
set_option maxRecDepth 100000 in
theorem ok_X6_actsAdded {l : Launch} {E : En} {o : Nat} {ad : (Nat → Nat)} {p1 : Int32} {p2 : Int32} {x : Ob} {r : Ob} (hf : fX6_actsAdded p1 p2 x = some r) : CV l yX6_actsAdded wsX6_actsAdded (rmX6_actsAdded) [.ref o, .int p1, .int p2] E (w6 E o ad x) (w6 E o ad r) := by
  refine xc_V (by decide) rfl (Nat.le_of_ble_eq_true rfl) [(0, .ref o), (1, .int p1), (2, .int p2)] rfl (fun p e s m below meth c A C hr => ?_)
  generalize ([.ref o, .int p1, .int p2] : List Value).toArray = args at C ⊢
  obtain ⟨Z, hZ⟩ : ∃ Z, Z = ZV E (w6 E o ad r) A below args s 0 0 := ⟨_, rfl⟩
  rw [← hZ]
  have in6 : ∀ w ∈ wsX60, w ∈ wsX6_actsAdded := by decide +kernel
  have m7 : Cond.fieldLink RX6 7 "TurningTreesModel" "kind" "[I" ∈ wsX6_actsAdded := by decide +kernel
  have m16 : Cond.fieldLink RX6 16 "TurningTreesModel" "above" "[I" ∈ wsX6_actsAdded := by decide +kernel
  have hL22 : ∀ n : Nat, ∀ (v1 : Int32), ∀ (v2 : Int32), ∀ (x : Ob), fX6_actsAdded_L22 n v1 v2 x = some r → XW E p l e rmX6_actsAdded s m args below meth c Z A 0 0 (w6 E o ad x) 22 3 [(0, .ref o), (1, .int v1), (2, .int v2)] [] := by
    intro n
    induction n with
    | zero =>
      intro v1 v2 x h
      rw [fX6_actsAdded_L22] at h
      cases h
    | succ n ih =>
      intro v1 v2 x h
      rw [fX6_actsAdded_L22] at h
      refine xw_aload_n C dX6_actsAdded_22 rfl 0 rfl ?_
      refine xw_get C in6 0 rfl rfl 2 (by decide) m7 rfl rfl dX6_actsAdded_23 ?_
      refine xw_iload_n C dX6_actsAdded_26 rfl 1 rfl ?_
      obtain ⟨g27, h⟩ := px_x h
      refine xw_iald C 1 rfl g27 dX6_actsAdded_27 ?_
      refine xw_iconst C (5) dX6_actsAdded_28 (by decide) ?_
      refine xw_icmp_ne C 76 dX6_actsAdded_29 (by decide) (fun c29 => ?_) (fun c29 => ?_)
      · have h := px_f c29 h
        cases h
        rw [hZ]
        exact xw_vret C hr dX6_actsAdded_76
      · have h := px_t c29 h
        refine xw_aload_n C dX6_actsAdded_32 rfl 0 rfl ?_
        refine xw_get C in6 0 rfl rfl 4 (by decide) m16 rfl rfl dX6_actsAdded_33 ?_
        refine xw_bipush C (64) dX6_actsAdded_36 (by decide) ?_
        refine xw_iload_n C dX6_actsAdded_38 rfl 1 rfl ?_
        refine xw_imul C dX6_actsAdded_39 ?_
        refine xw_iload_n C dX6_actsAdded_40 rfl 2 rfl ?_
        refine xw_iadd C dX6_actsAdded_41 ?_
        obtain ⟨g42, h⟩ := px_x h
        refine xw_iald C 3 rfl g42 dX6_actsAdded_42 ?_
        refine xw_if_lt C 76 dX6_actsAdded_43 (by decide) (fun c43 => ?_) (fun c43 => ?_)
        · have h := px_t c43 h
          cases h
          rw [hZ]
          exact xw_vret C hr dX6_actsAdded_76
        · have h := px_f c43 h
          refine xw_iload_n C dX6_actsAdded_46 rfl 2 rfl ?_
          obtain ⟨q47, eq47, h⟩ := px_b h
          refine xw_callSI (w' := w6 E o ad x) (u := []) (v := w6 E o ad x) C (ok_X6_weight  eq47) 1 gX6_actsAdded_X6_weight rfl ⟨rfl, rfl⟩ (by decide +kernel) ⟨Nat.le_of_ble_eq_true rfl, Nat.le_of_ble_eq_true rfl⟩ rfl (Nat.le_of_ble_eq_true rfl) ⟨Nat.zero_le _, Nat.zero_le _⟩ rfl rfl rfl dX6_actsAdded_47 ?_
          refine xw_aload_n C dX6_actsAdded_50 rfl 0 rfl ?_
          refine xw_get C in6 0 rfl rfl 4 (by decide) m16 rfl rfl dX6_actsAdded_51 ?_
          refine xw_bipush C (64) dX6_actsAdded_54 (by decide) ?_
          refine xw_iload_n C dX6_actsAdded_56 rfl 1 rfl ?_
          refine xw_imul C dX6_actsAdded_57 ?_
          refine xw_iload_n C dX6_actsAdded_58 rfl 2 rfl ?_
          refine xw_iadd C dX6_actsAdded_59 ?_
          obtain ⟨g60, h⟩ := px_x h
          refine xw_iald C 3 rfl g60 dX6_actsAdded_60 ?_
          obtain ⟨q61, eq61, h⟩ := px_b h
          refine xw_callSI (w' := w6 E o ad x) (u := []) (v := w6 E o ad x) C (ok_X6_weight  eq61) 1 gX6_actsAdded_X6_weight rfl ⟨rfl, rfl⟩ (by decide +kernel) ⟨Nat.le_of_ble_eq_true rfl, Nat.le_of_ble_eq_true rfl⟩ rfl (Nat.le_of_ble_eq_true rfl) ⟨Nat.zero_le _, Nat.zero_le _⟩ rfl rfl rfl dX6_actsAdded_61 ?_
          refine xw_icmp_le C 76 dX6_actsAdded_64 (by decide) (fun c64 => ?_) (fun c64 => ?_)
          · have h := px_t c64 h
            cases h
            rw [hZ]
            exact xw_vret C hr dX6_actsAdded_76
          · have h := px_f c64 h
            refine xw_aload_n C dX6_actsAdded_67 rfl 0 rfl ?_
            refine xw_iload_n C dX6_actsAdded_68 rfl 1 rfl ?_
            refine xw_iload_n C dX6_actsAdded_69 rfl 2 rfl ?_
            obtain ⟨q70, eq70, h⟩ := px_b h
            refine xw_callVV (w' := w6 E o ad q70) (u := []) (v := []) C (ok_X6_turn (o := o) (ad := ad) (x := x) eq70) 2 gX6_actsAdded_X6_turn rfl ⟨rfl, rfl⟩ (by decide +kernel) ⟨Nat.le_of_ble_eq_true rfl, Nat.le_of_ble_eq_true rfl⟩ 0 6 rfl rfl rfl (Nat.le_of_ble_eq_true rfl) ⟨Nat.zero_le _, Nat.zero_le _⟩ rfl xe0 xe0.symm dX6_actsAdded_70 ?_
            refine xw_goto C 22 dX6_actsAdded_73 (by decide) ?_
            exact ih _ _ _ h
  rw [fX6_actsAdded] at hf
  have h := hf
  refine xw_aload_n C dX6_actsAdded_0 rfl 0 rfl ?_
  refine xw_iload_n C dX6_actsAdded_1 rfl 1 rfl ?_
  refine xw_iload_n C dX6_actsAdded_2 rfl 2 rfl ?_
  obtain ⟨q3, eq3, h⟩ := px_b h
  refine xw_callVV (w' := w6 E o ad q3) (u := []) (v := []) C (ok_X6_acts (o := o) (ad := ad) (x := x) eq3) 2 gX6_actsAdded_X6_acts rfl ⟨rfl, rfl⟩ (by decide +kernel) ⟨Nat.le_of_ble_eq_true rfl, Nat.le_of_ble_eq_true rfl⟩ 0 6 rfl rfl rfl (Nat.le_of_ble_eq_true rfl) ⟨Nat.zero_le _, Nat.zero_le _⟩ rfl xe0 xe0.symm dX6_actsAdded_3 ?_
  refine xw_aload_n C dX6_actsAdded_6 rfl 0 rfl ?_
  refine xw_get C in6 0 rfl rfl 2 (by decide) m7 rfl rfl dX6_actsAdded_7 ?_
  refine xw_iload_n C dX6_actsAdded_10 rfl 1 rfl ?_
  obtain ⟨g11, h⟩ := px_x h
  refine xw_iald C 1 rfl g11 dX6_actsAdded_11 ?_
  refine xw_iconst C (4) dX6_actsAdded_12 (by decide) ?_
  refine xw_icmp_ne C 22 dX6_actsAdded_13 (by decide) (fun c13 => ?_) (fun c13 => ?_)
  · have h := px_f c13 h
    exact hL22 _ _ _ _ h
  · have h := px_t c13 h
    refine xw_aload_n C dX6_actsAdded_16 rfl 0 rfl ?_
    refine xw_iload_n C dX6_actsAdded_17 rfl 1 rfl ?_
    refine xw_iload_n C dX6_actsAdded_18 rfl 2 rfl ?_
    obtain ⟨q19, eq19, h⟩ := px_b h
    refine xw_callVV (w' := w6 E o ad q19) (u := []) (v := []) C (ok_X6_balances (o := o) (ad := ad) (x := q3) eq19) 2 gX6_actsAdded_X6_balances rfl ⟨rfl, rfl⟩ (by decide +kernel) ⟨Nat.le_of_ble_eq_true rfl, Nat.le_of_ble_eq_true rfl⟩ 0 6 rfl rfl rfl (Nat.le_of_ble_eq_true rfl) ⟨Nat.zero_le _, Nat.zero_le _⟩ rfl xe0 xe0.symm dX6_actsAdded_19 ?_
    exact hL22 _ _ _ _ h
def fX6_goes_J75 (k17 : Int32 → Int32 → Int32 → Ob → Option (Int32 × Ob)) (v1 : Int32) (v2 : Int32) (s0 : Int32) (x : Ob) : Option (Int32 × Ob) :=
  k17 v1 v2 s0 x
def fX6_goes_J79 (v2 : Int32) (x : Ob) : Option (Int32 × Ob) :=
  (if (x.1 17) = v2 then
    some ((1), x)
  else
    some ((0), x))
def fX6_goes_L17 : Nat → Int32 → Int32 → Int32 → Ob → Option (Int32 × Ob)
  | 0, _, _, _, _ => none
  | n + 1, v1, v2, v3, x =>
  (if v3 < 0 then
    fX6_goes_J79 v2 x
  else
    px_let (ob_i x 16 ((x.1 16) + (1))) (fun x_28 =>
    px_let (ob_i x_28 17 v3) (fun x_33 =>
    (if v3 = v2 then
      fX6_goes_J75 (fX6_goes_L17 n) v1 v2 (-1) x_33
    else
      (if v3 ≤ v2 then
        ix (((64) * v1) + v3) 512 (fun j74 =>
        fX6_goes_J75 (fX6_goes_L17 n) v1 v2 ((x_33.2 6 j74)) x_33)
      else
        ix (((64) * v1) + v3) 512 (fun j60 =>
        fX6_goes_J75 (fX6_goes_L17 n) v1 v2 ((x_33.2 5 j60)) x_33))))))
def fX6_goes (p1 : Int32) (p2 : Int32) (x : Ob) : Option (Int32 × Ob) :=
  px_let (ob_i x 16 (0)) (fun x_2 =>
  px_let (ob_i x_2 17 (-1)) (fun x_7 =>
  ix p1 8 (fun j15 =>
  px_let ((x_7.2 3 j15) : Int32) (fun b16 =>
  fX6_goes_L17 FU p1 p2 b16 x_7))))
abbrev rmX6_goes : Room := { frames := 0, cells := 0, slots := 0, locals := 0 }
set_option maxHeartbeats 4000000 in
set_option maxRecDepth 100000 in
theorem ok_X6_goes {l : Launch} {E : En} {o : Nat} {ad : (Nat → Nat)} {p1 : Int32} {p2 : Int32} {x : Ob} {r : Int32 × Ob} (hf : fX6_goes p1 p2 x = some r) : CI l yX6_goes wsX6_goes (rmX6_goes) [.ref o, .int p1, .int p2] E (w6 E o ad x) (w6 E o ad r.2) (r.1) := by
  refine xc_I (by decide) rfl (Nat.le_of_ble_eq_true rfl) [(0, .ref o), (1, .int p1), (2, .int p2)] rfl (fun p e s m below meth c A C hr => ?_)
  generalize ([.ref o, .int p1, .int p2] : List Value).toArray = args at C ⊢
  obtain ⟨Z, hZ⟩ : ∃ Z, Z = ZI E (w6 E o ad r.2) (r.1) A below args s 0 0 := ⟨_, rfl⟩
  rw [← hZ]
  have in6 : ∀ w ∈ wsX60, w ∈ wsX6_goes := by decide +kernel
  have m13 : Cond.fieldLink RX6 13 "TurningTreesModel" "root" "[I" ∈ wsX6_goes := by decide +kernel
  have m19 : Cond.fieldLink RX6 19 "TurningTreesModel" "left" "[I" ∈ wsX6_goes := by decide +kernel
  have m22 : Cond.fieldLink RX6 22 "TurningTreesModel" "right" "[I" ∈ wsX6_goes := by decide +kernel
  have m148 : Cond.fieldLink RX6 148 "TurningTreesModel" "cost" "I" ∈ wsX6_goes := by decide +kernel
  have m151 : Cond.fieldLink RX6 151 "TurningTreesModel" "last" "I" ∈ wsX6_goes := by decide +kernel
  have hJ75 : ∀ (k17 : Int32 → Int32 → Int32 → Ob → Option (Int32 × Ob)), (∀ (v1 : Int32), ∀ (v2 : Int32), ∀ (v3 : Int32), ∀ (x : Ob), k17 v1 v2 v3 x = some r → XW E p l e rmX6_goes s m args below meth c Z A 0 0 (w6 E o ad x) 17 4 [(0, .ref o), (1, .int v1), (2, .int v2), (3, .int v3)] []) → ∀ (v1 : Int32), ∀ (v2 : Int32), ∀ (s0 : Int32), ∀ (x : Ob), fX6_goes_J75 k17 v1 v2 s0 x = some r → XW E p l e rmX6_goes s m args below meth c Z A 0 0 (w6 E o ad x) 75 4 [(0, .ref o), (1, .int v1), (2, .int v2)] [.int s0] := by
    intro k17 hk17 v1 v2 s0 x h
    rw [fX6_goes_J75] at h
    refine xw_istore_n C dX6_goes_75 rfl (by decide) (lv' := [(3, .int s0), (0, .ref o), (1, .int v1), (2, .int v2)]) rfl ?_
    refine xw_goto C 17 dX6_goes_76 (by decide) ?_
    refine xw_perm [1, 2, 3, 0] rfl ?_
    exact hk17 _ _ _ _ h
  have hJ79 : ∀ (v2 : Int32), ∀ (x : Ob), fX6_goes_J79 v2 x = some r → XW E p l e rmX6_goes s m args below meth c Z A 0 0 (w6 E o ad x) 79 4 [(0, .ref o), (2, .int v2)] [] := by
    intro v2 x h
    rw [fX6_goes_J79] at h
    refine xw_aload_n C dX6_goes_79 rfl 0 rfl ?_
    refine xw_get C in6 0 rfl rfl 17 (by decide) m151 rfl rfl dX6_goes_80 ?_
    refine xw_iload_n C dX6_goes_83 rfl 1 rfl ?_
    refine xw_icmp_ne C 91 dX6_goes_84 (by decide) (fun c84 => ?_) (fun c84 => ?_)
    · have h := px_f c84 h
      refine xw_iconst C (0) dX6_goes_91 (by decide) ?_
      cases h
      rw [hZ]
      exact xw_zret C hr (Or.inl rfl) dX6_goes_92
    · have h := px_t c84 h
      refine xw_iconst C (1) dX6_goes_87 (by decide) ?_
      refine xw_goto C 92 dX6_goes_88 (by decide) ?_
      cases h
      rw [hZ]
      exact xw_zret C hr (Or.inr rfl) dX6_goes_92
  have hL17 : ∀ n : Nat, ∀ (v1 : Int32), ∀ (v2 : Int32), ∀ (v3 : Int32), ∀ (x : Ob), fX6_goes_L17 n v1 v2 v3 x = some r → XW E p l e rmX6_goes s m args below meth c Z A 0 0 (w6 E o ad x) 17 4 [(0, .ref o), (1, .int v1), (2, .int v2), (3, .int v3)] [] := by
    intro n
    induction n with
    | zero =>
      intro v1 v2 v3 x h
      rw [fX6_goes_L17] at h
      cases h
    | succ n ih =>
      intro v1 v2 v3 x h
      rw [fX6_goes_L17] at h
      refine xw_iload_n C dX6_goes_17 rfl 3 rfl ?_
      refine xw_if_lt C 79 dX6_goes_18 (by decide) (fun c18 => ?_) (fun c18 => ?_)
      · have h := px_t c18 h
        refine xw_perm [0, 2] rfl ?_
        exact hJ79 _ _ h
      · have h := px_f c18 h
        refine xw_aload_n C dX6_goes_21 rfl 0 rfl ?_
        refine xw_dup C dX6_goes_22 rfl ?_
        refine xw_get C in6 0 rfl rfl 16 (by decide) m148 rfl rfl dX6_goes_23 ?_
        refine xw_iconst C (1) dX6_goes_26 (by decide) ?_
        refine xw_iadd C dX6_goes_27 ?_
        refine px_n h (fun x_28 ex_28 h => ?_)
        refine xw_put (w' := w6 E o ad x_28) C in6 tyX6 tyX6_ok nmX6 0 rfl rfl 16 (by decide) m148 rfl rfl rfl (Nat.le_of_ble_eq_true rfl) (by rw [ex_28]; rfl) dX6_goes_28 ?_
        refine xw_aload_n C dX6_goes_31 rfl 0 rfl ?_
        refine xw_iload_n C dX6_goes_32 rfl 3 rfl ?_
        refine px_n h (fun x_33 ex_33 h => ?_)
        refine xw_put (w' := w6 E o ad x_33) C in6 tyX6 tyX6_ok nmX6 0 rfl rfl 17 (by decide) m151 rfl rfl rfl (Nat.le_of_ble_eq_true rfl) (by rw [ex_33]; rfl) dX6_goes_33 ?_
        refine xw_iload_n C dX6_goes_36 rfl 3 rfl ?_
        refine xw_iload_n C dX6_goes_37 rfl 2 rfl ?_
        refine xw_icmp_ne C 45 dX6_goes_38 (by decide) (fun c38 => ?_) (fun c38 => ?_)
        · have h := px_f c38 h
          refine xw_iload_n C dX6_goes_45 rfl 2 rfl ?_
          refine xw_iload_n C dX6_goes_46 rfl 3 rfl ?_
          refine xw_icmp_ge C 64 dX6_goes_47 (by decide) (fun c47 => ?_) (fun c47 => ?_)
          · have h := px_t c47 h
            refine xw_aload_n C dX6_goes_64 rfl 0 rfl ?_
            refine xw_get C in6 0 rfl rfl 6 (by decide) m22 rfl rfl dX6_goes_65 ?_
            refine xw_bipush C (64) dX6_goes_68 (by decide) ?_
            refine xw_iload_n C dX6_goes_70 rfl 1 rfl ?_
            refine xw_imul C dX6_goes_71 ?_
            refine xw_iload_n C dX6_goes_72 rfl 3 rfl ?_
            refine xw_iadd C dX6_goes_73 ?_
            obtain ⟨g74, h⟩ := px_x h
            refine xw_iald C 5 rfl g74 dX6_goes_74 ?_
            refine xw_perm [0, 1, 2] rfl ?_
            exact hJ75 _ ih _ _ _ _ h
          · have h := px_f c47 h
            refine xw_aload_n C dX6_goes_50 rfl 0 rfl ?_
            refine xw_get C in6 0 rfl rfl 5 (by decide) m19 rfl rfl dX6_goes_51 ?_
            refine xw_bipush C (64) dX6_goes_54 (by decide) ?_
            refine xw_iload_n C dX6_goes_56 rfl 1 rfl ?_
            refine xw_imul C dX6_goes_57 ?_
            refine xw_iload_n C dX6_goes_58 rfl 3 rfl ?_
            refine xw_iadd C dX6_goes_59 ?_
            obtain ⟨g60, h⟩ := px_x h
            refine xw_iald C 4 rfl g60 dX6_goes_60 ?_
            refine xw_goto C 75 dX6_goes_61 (by decide) ?_
            refine xw_perm [0, 1, 2] rfl ?_
            exact hJ75 _ ih _ _ _ _ h
        · have h := px_t c38 h
          refine xw_iconst C (-1) dX6_goes_41 (by decide) ?_
          refine xw_goto C 75 dX6_goes_42 (by decide) ?_
          refine xw_perm [0, 1, 2] rfl ?_
          exact hJ75 _ ih _ _ _ _ h
  rw [fX6_goes] at hf
  have h := hf
  refine xw_aload_n C dX6_goes_0 rfl 0 rfl ?_
  refine xw_iconst C (0) dX6_goes_1 (by decide) ?_
  refine px_n h (fun x_2 ex_2 h => ?_)
  refine xw_put (w' := w6 E o ad x_2) C in6 tyX6 tyX6_ok nmX6 0 rfl rfl 16 (by decide) m148 rfl rfl rfl (Nat.le_of_ble_eq_true rfl) (by rw [ex_2]; rfl) dX6_goes_2 ?_
  refine xw_aload_n C dX6_goes_5 rfl 0 rfl ?_
  refine xw_iconst C (-1) dX6_goes_6 (by decide) ?_
  refine px_n h (fun x_7 ex_7 h => ?_)
  refine xw_put (w' := w6 E o ad x_7) C in6 tyX6 tyX6_ok nmX6 0 rfl rfl 17 (by decide) m151 rfl rfl rfl (Nat.le_of_ble_eq_true rfl) (by rw [ex_7]; rfl) dX6_goes_7 ?_
  refine xw_aload_n C dX6_goes_10 rfl 0 rfl ?_
  refine xw_get C in6 0 rfl rfl 3 (by decide) m13 rfl rfl dX6_goes_11 ?_
  refine xw_iload_n C dX6_goes_14 rfl 1 rfl ?_
  obtain ⟨g15, h⟩ := px_x h
  refine xw_iald C 2 rfl g15 dX6_goes_15 ?_
  refine xw_topi (fun b16 eb16 => ?_)
  have h := px_v h b16 eb16
  refine xw_istore_n C dX6_goes_16 rfl (by decide) (lv' := [(3, .int b16), (0, .ref o), (1, .int p1), (2, .int p2)]) rfl ?_
  refine xw_perm [1, 2, 3, 0] rfl ?_
  exact hL17 _ _ _ _ _ h
def fX6_add_J147 (v1 : Int32) (v2 : Int32) (v4 : Int32) (x : Ob) : Option (Int32 × Ob) :=
  Option.bind (fX6_actsAdded v1 v2 x) (fun q150 =>
  some (v4, q150))
def fX6_add (p1 : Int32) (p2 : Int32) (x : Ob) : Option (Int32 × Ob) :=
  px_let (ob_i x 0 (0)) (fun x_2 =>
  Option.bind (fX6_isTree p1 x_2) (fun q7 =>
  (if q7 = 0 then
    some ((-1), x_2)
  else
    Option.bind (fX6_isKey p2) (fun q14 =>
    (if q14 = 0 then
      some ((-1), x_2)
    else
      ix (((64) * p1) + p2) 512 (fun j30 =>
      (if (x_2.2 7 j30) = 0 then
        Option.bind (fX6_goes p1 p2 x_2) (fun q39 =>
        px_let (q39.1 : Int32) (fun b42 =>
        px_let ((q39.2.1 16) : Int32) (fun b47 =>
        px_let ((((64) * p1) + p2) : Int32) (fun b55 =>
        ix b55 512 (fun j64 =>
        px_let (ob_a q39.2 7 j64 (vp_nar .boolean (1))) (fun x_64 =>
        ix b55 512 (fun j72 =>
        px_let (ob_a x_64 5 j72 (-1)) (fun x_72 =>
        ix b55 512 (fun j80 =>
        px_let (ob_a x_72 6 j80 (-1)) (fun x_80 =>
        ix b55 512 (fun j88 =>
        px_let (ob_a x_80 4 j88 (-1)) (fun x_88 =>
        ix p1 8 (fun j95 =>
        ix p1 8 (fun j98 =>
        px_let (ob_a x_88 8 j98 ((x_88.2 8 j95) + (1))) (fun x_98 =>
        (if 0 ≤ (x_98.1 17) then
          (if (x_98.1 17) ≤ p2 then
            Option.bind (fX6_hangsRight p1 p2 (x_98.1 17) x_98) (fun q144 =>
            fX6_add_J147 p1 p2 b47 q144)
          else
            Option.bind (fX6_hangsLeft p1 p2 (x_98.1 17) x_98) (fun q131 =>
            fX6_add_J147 p1 p2 b47 q131))
        else
          ix p1 8 (fun j112 =>
          px_let (ob_a x_98 3 j112 p2) (fun x_112 =>
          fX6_add_J147 p1 p2 b47 x_112))))))))))))))))))
      else
        some ((-1), x_2))))))))
abbrev rmX6_add : Room := { frames := 75, cells := 0, slots := 0, locals := 1797 }
set_option maxHeartbeats 4000000 in
set_option maxRecDepth 100000 in
theorem ok_X6_add {l : Launch} {E : En} {o : Nat} {ad : (Nat → Nat)} {p1 : Int32} {p2 : Int32} {x : Ob} {r : Int32 × Ob} (hf : fX6_add p1 p2 x = some r) : CI l yX6_add wsX6_add (rmX6_add) [.ref o, .int p1, .int p2] E (w6 E o ad x) (w6 E o ad r.2) (r.1) := by
  refine xc_I (by decide) rfl (Nat.le_of_ble_eq_true rfl) [(0, .ref o), (1, .int p1), (2, .int p2)] rfl (fun p e s m below meth c A C hr => ?_)
  generalize ([.ref o, .int p1, .int p2] : List Value).toArray = args at C ⊢
  obtain ⟨Z, hZ⟩ : ∃ Z, Z = ZI E (w6 E o ad r.2) (r.1) A below args s 0 0 := ⟨_, rfl⟩
  rw [← hZ]
  have in6 : ∀ w ∈ wsX60, w ∈ wsX6_add := by decide +kernel
  have m13 : Cond.fieldLink RX6 13 "TurningTreesModel" "root" "[I" ∈ wsX6_add := by decide +kernel
  have m16 : Cond.fieldLink RX6 16 "TurningTreesModel" "above" "[I" ∈ wsX6_add := by decide +kernel
  have m19 : Cond.fieldLink RX6 19 "TurningTreesModel" "left" "[I" ∈ wsX6_add := by decide +kernel
  have m22 : Cond.fieldLink RX6 22 "TurningTreesModel" "right" "[I" ∈ wsX6_add := by decide +kernel
  have m25 : Cond.fieldLink RX6 25 "TurningTreesModel" "isIn" "[Z" ∈ wsX6_add := by decide +kernel
  have m29 : Cond.fieldLink RX6 29 "TurningTreesModel" "many" "[I" ∈ wsX6_add := by decide +kernel
  have m77 : Cond.fieldLink RX6 77 "TurningTreesModel" "thrown" "I" ∈ wsX6_add := by decide +kernel
  have m148 : Cond.fieldLink RX6 148 "TurningTreesModel" "cost" "I" ∈ wsX6_add := by decide +kernel
  have m151 : Cond.fieldLink RX6 151 "TurningTreesModel" "last" "I" ∈ wsX6_add := by decide +kernel
  have hJ147 : ∀ (v1 : Int32), ∀ (v2 : Int32), ∀ (v4 : Int32), ∀ (x : Ob), fX6_add_J147 v1 v2 v4 x = some r → XW E p l e rmX6_add s m args below meth c Z A 0 0 (w6 E o ad x) 147 6 [(0, .ref o), (1, .int v1), (2, .int v2), (4, .int v4)] [] := by
    intro v1 v2 v4 x h
    rw [fX6_add_J147] at h
    refine xw_aload_n C dX6_add_147 rfl 0 rfl ?_
    refine xw_iload_n C dX6_add_148 rfl 1 rfl ?_
    refine xw_iload_n C dX6_add_149 rfl 2 rfl ?_
    obtain ⟨q150, eq150, h⟩ := px_b h
    refine xw_callVV (w' := w6 E o ad q150) (u := []) (v := []) C (ok_X6_actsAdded (o := o) (ad := ad) (x := x) eq150) 2 gX6_add_X6_actsAdded rfl ⟨rfl, rfl⟩ (by decide +kernel) ⟨Nat.le_of_ble_eq_true rfl, Nat.le_of_ble_eq_true rfl⟩ 0 6 rfl rfl rfl (Nat.le_of_ble_eq_true rfl) ⟨Nat.zero_le _, Nat.zero_le _⟩ rfl xe0 xe0.symm dX6_add_150 ?_
    refine xw_iload C dX6_add_153 3 rfl ?_
    cases h
    rw [hZ]
    exact xw_iret C hr dX6_add_155
  rw [fX6_add] at hf
  have h := hf
  refine xw_aload_n C dX6_add_0 rfl 0 rfl ?_
  refine xw_iconst C (0) dX6_add_1 (by decide) ?_
  refine px_n h (fun x_2 ex_2 h => ?_)
  refine xw_put (w' := w6 E o ad x_2) C in6 tyX6 tyX6_ok nmX6 0 rfl rfl 0 (by decide) m77 rfl rfl rfl (Nat.le_of_ble_eq_true rfl) (by rw [ex_2]; rfl) dX6_add_2 ?_
  refine xw_aload_n C dX6_add_5 rfl 0 rfl ?_
  refine xw_iload_n C dX6_add_6 rfl 1 rfl ?_
  obtain ⟨q7, eq7, h⟩ := px_b h
  refine xw_callVI (w' := w6 E o ad x_2) (u := []) (v := []) C (ok_X6_isTree (o := o) (ad := ad) (x := x_2) eq7) 1 gX6_add_X6_isTree rfl ⟨rfl, rfl⟩ (by decide +kernel) ⟨Nat.le_of_ble_eq_true rfl, Nat.le_of_ble_eq_true rfl⟩ 0 6 rfl rfl rfl (Nat.le_of_ble_eq_true rfl) ⟨Nat.zero_le _, Nat.zero_le _⟩ rfl xe0 xe0.symm dX6_add_7 ?_
  refine xw_if_eq C 34 dX6_add_10 (by decide) (fun c10 => ?_) (fun c10 => ?_)
  · have h := px_t c10 h
    refine xw_iconst C (-1) dX6_add_34 (by decide) ?_
    cases h
    rw [hZ]
    exact xw_iret C hr dX6_add_35
  · have h := px_f c10 h
    refine xw_iload_n C dX6_add_13 rfl 2 rfl ?_
    obtain ⟨q14, eq14, h⟩ := px_b h
    refine xw_callSI (w' := w6 E o ad x_2) (u := []) (v := w6 E o ad x_2) C (ok_X6_isKey  eq14) 1 gX6_add_X6_isKey rfl ⟨rfl, rfl⟩ (by decide +kernel) ⟨Nat.le_of_ble_eq_true rfl, Nat.le_of_ble_eq_true rfl⟩ rfl (Nat.le_of_ble_eq_true rfl) ⟨Nat.zero_le _, Nat.zero_le _⟩ rfl rfl rfl dX6_add_14 ?_
    refine xw_if_eq C 34 dX6_add_17 (by decide) (fun c17 => ?_) (fun c17 => ?_)
    · have h := px_t c17 h
      refine xw_iconst C (-1) dX6_add_34 (by decide) ?_
      cases h
      rw [hZ]
      exact xw_iret C hr dX6_add_35
    · have h := px_f c17 h
      refine xw_aload_n C dX6_add_20 rfl 0 rfl ?_
      refine xw_get C in6 0 rfl rfl 7 (by decide) m25 rfl rfl dX6_add_21 ?_
      refine xw_bipush C (64) dX6_add_24 (by decide) ?_
      refine xw_iload_n C dX6_add_26 rfl 1 rfl ?_
      refine xw_imul C dX6_add_27 ?_
      refine xw_iload_n C dX6_add_28 rfl 2 rfl ?_
      refine xw_iadd C dX6_add_29 ?_
      obtain ⟨g30, h⟩ := px_x h
      refine xw_zald C 6 rfl g30 dX6_add_30 ?_
      refine xw_if_eq C 36 dX6_add_31 (by decide) (fun c31 => ?_) (fun c31 => ?_)
      · have h := px_t c31 h
        refine xw_aload_n C dX6_add_36 rfl 0 rfl ?_
        refine xw_iload_n C dX6_add_37 rfl 1 rfl ?_
        refine xw_iload_n C dX6_add_38 rfl 2 rfl ?_
        obtain ⟨q39, eq39, h⟩ := px_b h
        refine xw_callVI (w' := w6 E o ad q39.2) (u := []) (v := []) C (ok_X6_goes (o := o) (ad := ad) (x := x_2) eq39) 2 gX6_add_X6_goes rfl ⟨rfl, rfl⟩ (by decide +kernel) ⟨Nat.le_of_ble_eq_true rfl, Nat.le_of_ble_eq_true rfl⟩ 0 6 rfl rfl rfl (Nat.le_of_ble_eq_true rfl) ⟨Nat.zero_le _, Nat.zero_le _⟩ rfl xe0 xe0.symm dX6_add_39 ?_
        refine xw_topi (fun b42 eb42 => ?_)
        have h := px_v h b42 eb42
        refine xw_istore_n C dX6_add_42 rfl (by decide) (lv' := [(3, .int b42), (0, .ref o), (1, .int p1), (2, .int p2)]) rfl ?_
        refine xw_aload_n C dX6_add_43 rfl 1 rfl ?_
        refine xw_get C in6 0 rfl rfl 16 (by decide) m148 rfl rfl dX6_add_44 ?_
        refine xw_topi (fun b47 eb47 => ?_)
        have h := px_v h b47 eb47
        refine xw_istore C dX6_add_47 (by decide) (lv' := [(4, .int b47), (3, .int b42), (0, .ref o), (1, .int p1), (2, .int p2)]) rfl ?_
        refine xw_bipush C (64) dX6_add_49 (by decide) ?_
        refine xw_iload_n C dX6_add_51 rfl 3 rfl ?_
        refine xw_imul C dX6_add_52 ?_
        refine xw_iload_n C dX6_add_53 rfl 4 rfl ?_
        refine xw_iadd C dX6_add_54 ?_
        refine xw_topi (fun b55 eb55 => ?_)
        have h := px_v h b55 eb55
        refine xw_istore C dX6_add_55 (by decide) (lv' := [(5, .int b55), (4, .int b47), (3, .int b42), (0, .ref o), (1, .int p1), (2, .int p2)]) rfl ?_
        refine xw_aload_n C dX6_add_57 rfl 3 rfl ?_
        refine xw_get C in6 0 rfl rfl 7 (by decide) m25 rfl rfl dX6_add_58 ?_
        refine xw_iload C dX6_add_61 0 rfl ?_
        refine xw_iconst C (1) dX6_add_63 (by decide) ?_
        obtain ⟨g64, h⟩ := px_x h
        refine px_n h (fun x_64 ex_64 h => ?_)
        refine xw_zast (w' := w6 E o ad x_64) C 6 rfl g64 (by rw [ex_64]; rfl) dX6_add_64 ?_
        refine xw_aload_n C dX6_add_65 rfl 3 rfl ?_
        refine xw_get C in6 0 rfl rfl 5 (by decide) m19 rfl rfl dX6_add_66 ?_
        refine xw_iload C dX6_add_69 0 rfl ?_
        refine xw_iconst C (-1) dX6_add_71 (by decide) ?_
        obtain ⟨g72, h⟩ := px_x h
        refine px_n h (fun x_72 ex_72 h => ?_)
        refine xw_iast (w' := w6 E o ad x_72) C 4 rfl g72 (by rw [ex_72]; rfl) dX6_add_72 ?_
        refine xw_aload_n C dX6_add_73 rfl 3 rfl ?_
        refine xw_get C in6 0 rfl rfl 6 (by decide) m22 rfl rfl dX6_add_74 ?_
        refine xw_iload C dX6_add_77 0 rfl ?_
        refine xw_iconst C (-1) dX6_add_79 (by decide) ?_
        obtain ⟨g80, h⟩ := px_x h
        refine px_n h (fun x_80 ex_80 h => ?_)
        refine xw_iast (w' := w6 E o ad x_80) C 5 rfl g80 (by rw [ex_80]; rfl) dX6_add_80 ?_
        refine xw_aload_n C dX6_add_81 rfl 3 rfl ?_
        refine xw_get C in6 0 rfl rfl 4 (by decide) m16 rfl rfl dX6_add_82 ?_
        refine xw_iload C dX6_add_85 0 rfl ?_
        refine xw_iconst C (-1) dX6_add_87 (by decide) ?_
        obtain ⟨g88, h⟩ := px_x h
        refine px_n h (fun x_88 ex_88 h => ?_)
        refine xw_iast (w' := w6 E o ad x_88) C 3 rfl g88 (by rw [ex_88]; rfl) dX6_add_88 ?_
        refine xw_aload_n C dX6_add_89 rfl 3 rfl ?_
        refine xw_get C in6 0 rfl rfl 8 (by decide) m29 rfl rfl dX6_add_90 ?_
        refine xw_iload_n C dX6_add_93 rfl 4 rfl ?_
        refine xw_dup2 C dX6_add_94 rfl rfl ?_
        obtain ⟨g95, h⟩ := px_x h
        refine xw_iald C 7 rfl g95 dX6_add_95 ?_
        refine xw_iconst C (1) dX6_add_96 (by decide) ?_
        refine xw_iadd C dX6_add_97 ?_
        obtain ⟨g98, h⟩ := px_x h
        refine px_n h (fun x_98 ex_98 h => ?_)
        refine xw_iast (w' := w6 E o ad x_98) C 7 rfl g98 (by rw [ex_98]; rfl) dX6_add_98 ?_
        refine xw_aload_n C dX6_add_99 rfl 3 rfl ?_
        refine xw_get C in6 0 rfl rfl 17 (by decide) m151 rfl rfl dX6_add_100 ?_
        refine xw_if_ge C 116 dX6_add_103 (by decide) (fun c103 => ?_) (fun c103 => ?_)
        · have h := px_t c103 h
          refine xw_iload_n C dX6_add_116 rfl 5 rfl ?_
          refine xw_aload_n C dX6_add_117 rfl 3 rfl ?_
          refine xw_get C in6 0 rfl rfl 17 (by decide) m151 rfl rfl dX6_add_118 ?_
          refine xw_icmp_ge C 137 dX6_add_121 (by decide) (fun c121 => ?_) (fun c121 => ?_)
          · have h := px_t c121 h
            refine xw_aload_n C dX6_add_137 rfl 3 rfl ?_
            refine xw_iload_n C dX6_add_138 rfl 4 rfl ?_
            refine xw_iload_n C dX6_add_139 rfl 5 rfl ?_
            refine xw_aload_n C dX6_add_140 rfl 3 rfl ?_
            refine xw_get C in6 0 rfl rfl 17 (by decide) m151 rfl rfl dX6_add_141 ?_
            obtain ⟨q144, eq144, h⟩ := px_b h
            refine xw_callVV (w' := w6 E o ad q144) (u := []) (v := []) C (ok_X6_hangsRight (o := o) (ad := ad) (x := x_98) eq144) 3 gX6_add_X6_hangsRight rfl ⟨rfl, rfl⟩ (by decide +kernel) ⟨Nat.le_of_ble_eq_true rfl, Nat.le_of_ble_eq_true rfl⟩ 0 6 rfl rfl rfl (Nat.le_of_ble_eq_true rfl) ⟨Nat.zero_le _, Nat.zero_le _⟩ rfl xe0 xe0.symm dX6_add_144 ?_
            refine xw_perm [3, 4, 5, 1] rfl ?_
            exact hJ147 _ _ _ _ h
          · have h := px_f c121 h
            refine xw_aload_n C dX6_add_124 rfl 3 rfl ?_
            refine xw_iload_n C dX6_add_125 rfl 4 rfl ?_
            refine xw_iload_n C dX6_add_126 rfl 5 rfl ?_
            refine xw_aload_n C dX6_add_127 rfl 3 rfl ?_
            refine xw_get C in6 0 rfl rfl 17 (by decide) m151 rfl rfl dX6_add_128 ?_
            obtain ⟨q131, eq131, h⟩ := px_b h
            refine xw_callVV (w' := w6 E o ad q131) (u := []) (v := []) C (ok_X6_hangsLeft (o := o) (ad := ad) (x := x_98) eq131) 3 gX6_add_X6_hangsLeft rfl ⟨rfl, rfl⟩ (by decide +kernel) ⟨Nat.le_of_ble_eq_true rfl, Nat.le_of_ble_eq_true rfl⟩ 0 6 rfl rfl rfl (Nat.le_of_ble_eq_true rfl) ⟨Nat.zero_le _, Nat.zero_le _⟩ rfl xe0 xe0.symm dX6_add_131 ?_
            refine xw_goto C 147 dX6_add_134 (by decide) ?_
            refine xw_perm [3, 4, 5, 1] rfl ?_
            exact hJ147 _ _ _ _ h
        · have h := px_f c103 h
          refine xw_aload_n C dX6_add_106 rfl 3 rfl ?_
          refine xw_get C in6 0 rfl rfl 3 (by decide) m13 rfl rfl dX6_add_107 ?_
          refine xw_iload_n C dX6_add_110 rfl 4 rfl ?_
          refine xw_iload_n C dX6_add_111 rfl 5 rfl ?_
          obtain ⟨g112, h⟩ := px_x h
          refine px_n h (fun x_112 ex_112 h => ?_)
          refine xw_iast (w' := w6 E o ad x_112) C 2 rfl g112 (by rw [ex_112]; rfl) dX6_add_112 ?_
          refine xw_goto C 147 dX6_add_113 (by decide) ?_
          refine xw_perm [3, 4, 5, 1] rfl ?_
          exact hJ147 _ _ _ _ h
      · have h := px_f c31 h
        refine xw_iconst C (-1) dX6_add_34 (by decide) ?_
        cases h
        rw [hZ]
        exact xw_iret C hr dX6_add_35
def fX6_ask_J107 (v3 : Int32) (x : Ob) : Option (Int32 × Ob) :=
  (if v3 = 0 then
    some ((-(x.1 16)), x)
  else
    some ((x.1 16), x))
def fX6_ask_J91 (v1 : Int32) (v3 : Int32) (x : Ob) : Option (Int32 × Ob) :=
  (if (x.1 17) < 0 then
    fX6_ask_J107 v3 x
  else
    Option.bind (fX6_acts v1 (x.1 17) x) (fun q104 =>
    fX6_ask_J107 v3 q104))
def fX6_ask_J21 (v1 : Int32) (v2 : Int32) (s0 : Int32) (x : Ob) : Option (Int32 × Ob) :=
  px_let (ob_i x 0 s0) (fun x_21 =>
  (if (x_21.1 0) ≤ 0 then
    Option.bind (fX6_goes v1 v2 x_21) (fun q36 =>
    px_let (q36.1 : Int32) (fun b39 =>
    ix v1 8 (fun j46 =>
    ix v1 8 (fun j52 =>
    px_let (ob_a q36.2 10 j52 ((q36.2.2 10 j46) + (q36.2.1 16))) (fun x_52 =>
    ix v1 8 (fun j58 =>
    (if (100) ≤ (x_52.2 12 j58) then
      fX6_ask_J91 v1 b39 x_52
    else
      ix v1 8 (fun j77 =>
      ix (((100) * v1) + (x_52.2 12 j77)) 800 (fun j80 =>
      px_let (ob_a x_52 13 j80 v2) (fun x_80 =>
      ix v1 8 (fun j87 =>
      ix v1 8 (fun j90 =>
      px_let (ob_a x_80 12 j90 ((x_80.2 12 j87) + (1))) (fun x_90 =>
      fX6_ask_J91 v1 b39 x_90)))))))))))))
  else
    some ((0), x_21)))
def fX6_ask_J20 (v1 : Int32) (v2 : Int32) (x : Ob) : Option (Int32 × Ob) :=
  fX6_ask_J21 v1 v2 (1) x
def fX6_ask (p1 : Int32) (p2 : Int32) (x : Ob) : Option (Int32 × Ob) :=
  Option.bind (fX6_isTree p1 x) (fun q3 =>
  (if q3 = 0 then
    fX6_ask_J20 p1 p2 x
  else
    Option.bind (fX6_isKey p2) (fun q10 =>
    (if q10 = 0 then
      fX6_ask_J20 p1 p2 x
    else
      fX6_ask_J21 p1 p2 (0) x))))
abbrev rmX6_ask : Room := { frames := 4, cells := 0, slots := 0, locals := 93 }
set_option maxHeartbeats 4000000 in
set_option maxRecDepth 100000 in
theorem ok_X6_ask {l : Launch} {E : En} {o : Nat} {ad : (Nat → Nat)} {p1 : Int32} {p2 : Int32} {x : Ob} {r : Int32 × Ob} (hf : fX6_ask p1 p2 x = some r) : CI l yX6_ask wsX6_ask (rmX6_ask) [.ref o, .int p1, .int p2] E (w6 E o ad x) (w6 E o ad r.2) (r.1) := by
  refine xc_I (by decide) rfl (Nat.le_of_ble_eq_true rfl) [(0, .ref o), (1, .int p1), (2, .int p2)] rfl (fun p e s m below meth c A C hr => ?_)
  generalize ([.ref o, .int p1, .int p2] : List Value).toArray = args at C ⊢
  obtain ⟨Z, hZ⟩ : ∃ Z, Z = ZI E (w6 E o ad r.2) (r.1) A below args s 0 0 := ⟨_, rfl⟩
  rw [← hZ]
  have in6 : ∀ w ∈ wsX60, w ∈ wsX6_ask := by decide +kernel
  have m35 : Cond.fieldLink RX6 35 "TurningTreesModel" "costs" "[I" ∈ wsX6_ask := by decide +kernel
  have m41 : Cond.fieldLink RX6 41 "TurningTreesModel" "asks" "[I" ∈ wsX6_ask := by decide +kernel
  have m44 : Cond.fieldLink RX6 44 "TurningTreesModel" "row" "[I" ∈ wsX6_ask := by decide +kernel
  have m77 : Cond.fieldLink RX6 77 "TurningTreesModel" "thrown" "I" ∈ wsX6_ask := by decide +kernel
  have m148 : Cond.fieldLink RX6 148 "TurningTreesModel" "cost" "I" ∈ wsX6_ask := by decide +kernel
  have m151 : Cond.fieldLink RX6 151 "TurningTreesModel" "last" "I" ∈ wsX6_ask := by decide +kernel
  have hJ107 : ∀ (v3 : Int32), ∀ (x : Ob), fX6_ask_J107 v3 x = some r → XW E p l e rmX6_ask s m args below meth c Z A 0 0 (w6 E o ad x) 107 4 [(0, .ref o), (3, .int v3)] [] := by
    intro v3 x h
    rw [fX6_ask_J107] at h
    refine xw_iload_n C dX6_ask_107 rfl 1 rfl ?_
    refine xw_if_eq C 118 dX6_ask_108 (by decide) (fun c108 => ?_) (fun c108 => ?_)
    · have h := px_t c108 h
      refine xw_aload_n C dX6_ask_118 rfl 0 rfl ?_
      refine xw_get C in6 0 rfl rfl 16 (by decide) m148 rfl rfl dX6_ask_119 ?_
      refine xw_ineg C dX6_ask_122 ?_
      cases h
      rw [hZ]
      exact xw_iret C hr dX6_ask_123
    · have h := px_f c108 h
      refine xw_aload_n C dX6_ask_111 rfl 0 rfl ?_
      refine xw_get C in6 0 rfl rfl 16 (by decide) m148 rfl rfl dX6_ask_112 ?_
      refine xw_goto C 123 dX6_ask_115 (by decide) ?_
      cases h
      rw [hZ]
      exact xw_iret C hr dX6_ask_123
  have hJ91 : ∀ (v1 : Int32), ∀ (v3 : Int32), ∀ (x : Ob), fX6_ask_J91 v1 v3 x = some r → XW E p l e rmX6_ask s m args below meth c Z A 0 0 (w6 E o ad x) 91 4 [(0, .ref o), (1, .int v1), (3, .int v3)] [] := by
    intro v1 v3 x h
    rw [fX6_ask_J91] at h
    refine xw_aload_n C dX6_ask_91 rfl 0 rfl ?_
    refine xw_get C in6 0 rfl rfl 17 (by decide) m151 rfl rfl dX6_ask_92 ?_
    refine xw_if_lt C 107 dX6_ask_95 (by decide) (fun c95 => ?_) (fun c95 => ?_)
    · have h := px_t c95 h
      refine xw_perm [0, 2] rfl ?_
      exact hJ107 _ _ h
    · have h := px_f c95 h
      refine xw_aload_n C dX6_ask_98 rfl 0 rfl ?_
      refine xw_iload_n C dX6_ask_99 rfl 1 rfl ?_
      refine xw_aload_n C dX6_ask_100 rfl 0 rfl ?_
      refine xw_get C in6 0 rfl rfl 17 (by decide) m151 rfl rfl dX6_ask_101 ?_
      obtain ⟨q104, eq104, h⟩ := px_b h
      refine xw_callVV (w' := w6 E o ad q104) (u := []) (v := []) C (ok_X6_acts (o := o) (ad := ad) (x := x) eq104) 2 gX6_ask_X6_acts rfl ⟨rfl, rfl⟩ (by decide +kernel) ⟨Nat.le_of_ble_eq_true rfl, Nat.le_of_ble_eq_true rfl⟩ 0 6 rfl rfl rfl (Nat.le_of_ble_eq_true rfl) ⟨Nat.zero_le _, Nat.zero_le _⟩ rfl xe0 xe0.symm dX6_ask_104 ?_
      refine xw_perm [0, 2] rfl ?_
      exact hJ107 _ _ h
  have hJ21 : ∀ (v1 : Int32), ∀ (v2 : Int32), ∀ (s0 : Int32), ∀ (x : Ob), fX6_ask_J21 v1 v2 s0 x = some r → XW E p l e rmX6_ask s m args below meth c Z A 0 0 (w6 E o ad x) 21 4 [(0, .ref o), (1, .int v1), (2, .int v2)] [.int s0, .ref o] := by
    intro v1 v2 s0 x h
    rw [fX6_ask_J21] at h
    refine px_n h (fun x_21 ex_21 h => ?_)
    refine xw_put (w' := w6 E o ad x_21) C in6 tyX6 tyX6_ok nmX6 0 rfl rfl 0 (by decide) m77 rfl rfl rfl (Nat.le_of_ble_eq_true rfl) (by rw [ex_21]; rfl) dX6_ask_21 ?_
    refine xw_aload_n C dX6_ask_24 rfl 0 rfl ?_
    refine xw_get C in6 0 rfl rfl 0 (by decide) m77 rfl rfl dX6_ask_25 ?_
    refine xw_if_le C 33 dX6_ask_28 (by decide) (fun c28 => ?_) (fun c28 => ?_)
    · have h := px_t c28 h
      refine xw_aload_n C dX6_ask_33 rfl 0 rfl ?_
      refine xw_iload_n C dX6_ask_34 rfl 1 rfl ?_
      refine xw_iload_n C dX6_ask_35 rfl 2 rfl ?_
      obtain ⟨q36, eq36, h⟩ := px_b h
      refine xw_callVI (w' := w6 E o ad q36.2) (u := []) (v := []) C (ok_X6_goes (o := o) (ad := ad) (x := x_21) eq36) 2 gX6_ask_X6_goes rfl ⟨rfl, rfl⟩ (by decide +kernel) ⟨Nat.le_of_ble_eq_true rfl, Nat.le_of_ble_eq_true rfl⟩ 0 6 rfl rfl rfl (Nat.le_of_ble_eq_true rfl) ⟨Nat.zero_le _, Nat.zero_le _⟩ rfl xe0 xe0.symm dX6_ask_36 ?_
      refine xw_topi (fun b39 eb39 => ?_)
      have h := px_v h b39 eb39
      refine xw_istore_n C dX6_ask_39 rfl (by decide) (lv' := [(3, .int b39), (0, .ref o), (1, .int v1), (2, .int v2)]) rfl ?_
      refine xw_aload_n C dX6_ask_40 rfl 1 rfl ?_
      refine xw_get C in6 0 rfl rfl 10 (by decide) m35 rfl rfl dX6_ask_41 ?_
      refine xw_iload_n C dX6_ask_44 rfl 2 rfl ?_
      refine xw_dup2 C dX6_ask_45 rfl rfl ?_
      obtain ⟨g46, h⟩ := px_x h
      refine xw_iald C 9 rfl g46 dX6_ask_46 ?_
      refine xw_aload_n C dX6_ask_47 rfl 1 rfl ?_
      refine xw_get C in6 0 rfl rfl 16 (by decide) m148 rfl rfl dX6_ask_48 ?_
      refine xw_iadd C dX6_ask_51 ?_
      obtain ⟨g52, h⟩ := px_x h
      refine px_n h (fun x_52 ex_52 h => ?_)
      refine xw_iast (w' := w6 E o ad x_52) C 9 rfl g52 (by rw [ex_52]; rfl) dX6_ask_52 ?_
      refine xw_aload_n C dX6_ask_53 rfl 1 rfl ?_
      refine xw_get C in6 0 rfl rfl 12 (by decide) m41 rfl rfl dX6_ask_54 ?_
      refine xw_iload_n C dX6_ask_57 rfl 2 rfl ?_
      obtain ⟨g58, h⟩ := px_x h
      refine xw_iald C 11 rfl g58 dX6_ask_58 ?_
      refine xw_bipush C (100) dX6_ask_59 (by decide) ?_
      refine xw_icmp_ge C 91 dX6_ask_61 (by decide) (fun c61 => ?_) (fun c61 => ?_)
      · have h := px_t c61 h
        refine xw_perm [1, 2, 0] rfl ?_
        exact hJ91 _ _ _ h
      · have h := px_f c61 h
        refine xw_aload_n C dX6_ask_64 rfl 1 rfl ?_
        refine xw_get C in6 0 rfl rfl 13 (by decide) m44 rfl rfl dX6_ask_65 ?_
        refine xw_bipush C (100) dX6_ask_68 (by decide) ?_
        refine xw_iload_n C dX6_ask_70 rfl 2 rfl ?_
        refine xw_imul C dX6_ask_71 ?_
        refine xw_aload_n C dX6_ask_72 rfl 1 rfl ?_
        refine xw_get C in6 0 rfl rfl 12 (by decide) m41 rfl rfl dX6_ask_73 ?_
        refine xw_iload_n C dX6_ask_76 rfl 2 rfl ?_
        obtain ⟨g77, h⟩ := px_x h
        refine xw_iald C 11 rfl g77 dX6_ask_77 ?_
        refine xw_iadd C dX6_ask_78 ?_
        refine xw_iload_n C dX6_ask_79 rfl 3 rfl ?_
        obtain ⟨g80, h⟩ := px_x h
        refine px_n h (fun x_80 ex_80 h => ?_)
        refine xw_iast (w' := w6 E o ad x_80) C 12 rfl g80 (by rw [ex_80]; rfl) dX6_ask_80 ?_
        refine xw_aload_n C dX6_ask_81 rfl 1 rfl ?_
        refine xw_get C in6 0 rfl rfl 12 (by decide) m41 rfl rfl dX6_ask_82 ?_
        refine xw_iload_n C dX6_ask_85 rfl 2 rfl ?_
        refine xw_dup2 C dX6_ask_86 rfl rfl ?_
        obtain ⟨g87, h⟩ := px_x h
        refine xw_iald C 11 rfl g87 dX6_ask_87 ?_
        refine xw_iconst C (1) dX6_ask_88 (by decide) ?_
        refine xw_iadd C dX6_ask_89 ?_
        obtain ⟨g90, h⟩ := px_x h
        refine px_n h (fun x_90 ex_90 h => ?_)
        refine xw_iast (w' := w6 E o ad x_90) C 11 rfl g90 (by rw [ex_90]; rfl) dX6_ask_90 ?_
        refine xw_perm [1, 2, 0] rfl ?_
        exact hJ91 _ _ _ h
    · have h := px_f c28 h
      refine xw_iconst C (0) dX6_ask_31 (by decide) ?_
      cases h
      rw [hZ]
      exact xw_iret C hr dX6_ask_32
  have hJ20 : ∀ (v1 : Int32), ∀ (v2 : Int32), ∀ (x : Ob), fX6_ask_J20 v1 v2 x = some r → XW E p l e rmX6_ask s m args below meth c Z A 0 0 (w6 E o ad x) 20 4 [(0, .ref o), (1, .int v1), (2, .int v2)] [.ref o] := by
    intro v1 v2 x h
    rw [fX6_ask_J20] at h
    refine xw_iconst C (1) dX6_ask_20 (by decide) ?_
    exact hJ21 _ _ _ _ h
  rw [fX6_ask] at hf
  have h := hf
  refine xw_aload_n C dX6_ask_0 rfl 0 rfl ?_
  refine xw_aload_n C dX6_ask_1 rfl 0 rfl ?_
  refine xw_iload_n C dX6_ask_2 rfl 1 rfl ?_
  obtain ⟨q3, eq3, h⟩ := px_b h
  refine xw_callVI (w' := w6 E o ad x) (u := []) (v := []) C (ok_X6_isTree (o := o) (ad := ad) (x := x) eq3) 1 gX6_ask_X6_isTree rfl ⟨rfl, rfl⟩ (by decide +kernel) ⟨Nat.le_of_ble_eq_true rfl, Nat.le_of_ble_eq_true rfl⟩ 0 6 rfl rfl rfl (Nat.le_of_ble_eq_true rfl) ⟨Nat.zero_le _, Nat.zero_le _⟩ rfl xe0 xe0.symm dX6_ask_3 ?_
  refine xw_if_eq C 20 dX6_ask_6 (by decide) (fun c6 => ?_) (fun c6 => ?_)
  · have h := px_t c6 h
    exact hJ20 _ _ _ h
  · have h := px_f c6 h
    refine xw_iload_n C dX6_ask_9 rfl 2 rfl ?_
    obtain ⟨q10, eq10, h⟩ := px_b h
    refine xw_callSI (w' := w6 E o ad x) (u := []) (v := w6 E o ad x) C (ok_X6_isKey  eq10) 1 gX6_ask_X6_isKey rfl ⟨rfl, rfl⟩ (by decide +kernel) ⟨Nat.le_of_ble_eq_true rfl, Nat.le_of_ble_eq_true rfl⟩ rfl (Nat.le_of_ble_eq_true rfl) ⟨Nat.zero_le _, Nat.zero_le _⟩ rfl rfl rfl dX6_ask_10 ?_
    refine xw_if_eq C 20 dX6_ask_13 (by decide) (fun c13 => ?_) (fun c13 => ?_)
    · have h := px_t c13 h
      exact hJ20 _ _ _ h
    · have h := px_f c13 h
      refine xw_iconst C (0) dX6_ask_16 (by decide) ?_
      refine xw_goto C 21 dX6_ask_17 (by decide) ?_
      exact hJ21 _ _ _ _ h
def fX6_heir_J34 (v3 : Int32) (v4 : Int32) (x : Ob) : Option (Int32) :=
  (if 0 ≤ v3 then
    some v3
  else
    some v4)
def fX6_heir_J96 (v3 : Int32) (v4 : Int32) (s0 : Int32) (x : Ob) : Option (Int32) :=
  (if s0 = 0 then
    some v4
  else
    some v3)
def fX6_heir (p1 : Int32) (p2 : Int32) (x : Ob) : Option (Int32) :=
  ix (((64) * p1) + p2) 512 (fun j10 =>
  px_let ((x.2 5 j10) : Int32) (fun b11 =>
  ix (((64) * p1) + p2) 512 (fun j22 =>
  px_let ((x.2 6 j22) : Int32) (fun b23 =>
  (if b11 < 0 then
    fX6_heir_J34 b11 b23 x
  else
    (if 0 ≤ b23 then
      ix p1 8 (fun j50 =>
      (if (x.2 2 j50) = (5) then
        Option.bind (fX6_weight b11) (fun q56 =>
        Option.bind (fX6_weight b23) (fun q61 =>
        (if q56 ≤ q61 then
          fX6_heir_J96 b11 b23 (0) x
        else
          fX6_heir_J96 b11 b23 (1) x)))
      else
        Option.bind (fX6_sizeOf RD p1 b11 x) (fun q78 =>
        Option.bind (fX6_sizeOf RD p1 b23 x) (fun q85 =>
        (if q78 < q85 then
          fX6_heir_J96 b11 b23 (0) x
        else
          fX6_heir_J96 b11 b23 (1) x)))))
    else
      fX6_heir_J34 b11 b23 x))))))
abbrev rmX6_heir : Room := { frames := 71, cells := 0, slots := 0, locals := 1562 }
set_option maxHeartbeats 4000000 in
set_option maxRecDepth 100000 in
theorem ok_X6_heir {l : Launch} {E : En} {o : Nat} {ad : (Nat → Nat)} {p1 : Int32} {p2 : Int32} {x : Ob} {r : Int32} (hf : fX6_heir p1 p2 x = some r) : CI l yX6_heir wsX6_heir (rmX6_heir) [.ref o, .int p1, .int p2] E (w6 E o ad x) (w6 E o ad x) (r) := by
  refine xc_I (by decide) rfl (Nat.le_of_ble_eq_true rfl) [(0, .ref o), (1, .int p1), (2, .int p2)] rfl (fun p e s m below meth c A C hr => ?_)
  generalize ([.ref o, .int p1, .int p2] : List Value).toArray = args at C ⊢
  obtain ⟨Z, hZ⟩ : ∃ Z, Z = ZI E (w6 E o ad x) (r) A below args s 0 0 := ⟨_, rfl⟩
  rw [← hZ]
  have in6 : ∀ w ∈ wsX60, w ∈ wsX6_heir := by decide +kernel
  have m7 : Cond.fieldLink RX6 7 "TurningTreesModel" "kind" "[I" ∈ wsX6_heir := by decide +kernel
  have m19 : Cond.fieldLink RX6 19 "TurningTreesModel" "left" "[I" ∈ wsX6_heir := by decide +kernel
  have m22 : Cond.fieldLink RX6 22 "TurningTreesModel" "right" "[I" ∈ wsX6_heir := by decide +kernel
  have hJ34 : ∀ (v3 : Int32), ∀ (v4 : Int32), fX6_heir_J34 v3 v4 x = some r → XW E p l e rmX6_heir s m args below meth c Z A 0 0 (w6 E o ad x) 34 6 [(3, .int v3), (4, .int v4)] [] := by
    intro v3 v4 h
    rw [fX6_heir_J34] at h
    refine xw_iload_n C dX6_heir_34 rfl 0 rfl ?_
    refine xw_if_ge C 43 dX6_heir_35 (by decide) (fun c35 => ?_) (fun c35 => ?_)
    · have h := px_t c35 h
      refine xw_iload_n C dX6_heir_43 rfl 0 rfl ?_
      cases h
      rw [hZ]
      exact xw_iret C hr dX6_heir_44
    · have h := px_f c35 h
      refine xw_iload C dX6_heir_38 1 rfl ?_
      refine xw_goto C 44 dX6_heir_40 (by decide) ?_
      cases h
      rw [hZ]
      exact xw_iret C hr dX6_heir_44
  have hJ96 : ∀ (v3 : Int32), ∀ (v4 : Int32), ∀ (s0 : Int32), fX6_heir_J96 v3 v4 s0 x = some r → XW E p l e rmX6_heir s m args below meth c Z A 0 0 (w6 E o ad x) 96 6 [(3, .int v3), (4, .int v4)] [.int s0] := by
    intro v3 v4 s0 h
    rw [fX6_heir_J96] at h
    refine xw_istore C dX6_heir_96 (by decide) (lv' := [(5, .int s0), (3, .int v3), (4, .int v4)]) rfl ?_
    refine xw_iload C dX6_heir_98 0 rfl ?_
    refine xw_if_eq C 107 dX6_heir_100 (by decide) (fun c100 => ?_) (fun c100 => ?_)
    · have h := px_t c100 h
      refine xw_iload C dX6_heir_107 2 rfl ?_
      cases h
      rw [hZ]
      exact xw_iret C hr dX6_heir_109
    · have h := px_f c100 h
      refine xw_iload_n C dX6_heir_103 rfl 1 rfl ?_
      refine xw_goto C 109 dX6_heir_104 (by decide) ?_
      cases h
      rw [hZ]
      exact xw_iret C hr dX6_heir_109
  rw [fX6_heir] at hf
  have h := hf
  refine xw_aload_n C dX6_heir_0 rfl 0 rfl ?_
  refine xw_get C in6 0 rfl rfl 5 (by decide) m19 rfl rfl dX6_heir_1 ?_
  refine xw_bipush C (64) dX6_heir_4 (by decide) ?_
  refine xw_iload_n C dX6_heir_6 rfl 1 rfl ?_
  refine xw_imul C dX6_heir_7 ?_
  refine xw_iload_n C dX6_heir_8 rfl 2 rfl ?_
  refine xw_iadd C dX6_heir_9 ?_
  obtain ⟨g10, h⟩ := px_x h
  refine xw_iald C 4 rfl g10 dX6_heir_10 ?_
  refine xw_topi (fun b11 eb11 => ?_)
  have h := px_v h b11 eb11
  refine xw_istore_n C dX6_heir_11 rfl (by decide) (lv' := [(3, .int b11), (0, .ref o), (1, .int p1), (2, .int p2)]) rfl ?_
  refine xw_aload_n C dX6_heir_12 rfl 1 rfl ?_
  refine xw_get C in6 0 rfl rfl 6 (by decide) m22 rfl rfl dX6_heir_13 ?_
  refine xw_bipush C (64) dX6_heir_16 (by decide) ?_
  refine xw_iload_n C dX6_heir_18 rfl 2 rfl ?_
  refine xw_imul C dX6_heir_19 ?_
  refine xw_iload_n C dX6_heir_20 rfl 3 rfl ?_
  refine xw_iadd C dX6_heir_21 ?_
  obtain ⟨g22, h⟩ := px_x h
  refine xw_iald C 5 rfl g22 dX6_heir_22 ?_
  refine xw_topi (fun b23 eb23 => ?_)
  have h := px_v h b23 eb23
  refine xw_istore C dX6_heir_23 (by decide) (lv' := [(4, .int b23), (3, .int b11), (0, .ref o), (1, .int p1), (2, .int p2)]) rfl ?_
  refine xw_iload_n C dX6_heir_25 rfl 1 rfl ?_
  refine xw_if_lt C 34 dX6_heir_26 (by decide) (fun c26 => ?_) (fun c26 => ?_)
  · have h := px_t c26 h
    refine xw_perm [1, 0] rfl ?_
    exact hJ34 _ _ h
  · have h := px_f c26 h
    refine xw_iload C dX6_heir_29 0 rfl ?_
    refine xw_if_ge C 45 dX6_heir_31 (by decide) (fun c31 => ?_) (fun c31 => ?_)
    · have h := px_t c31 h
      refine xw_aload_n C dX6_heir_45 rfl 2 rfl ?_
      refine xw_get C in6 0 rfl rfl 2 (by decide) m7 rfl rfl dX6_heir_46 ?_
      refine xw_iload_n C dX6_heir_49 rfl 3 rfl ?_
      obtain ⟨g50, h⟩ := px_x h
      refine xw_iald C 1 rfl g50 dX6_heir_50 ?_
      refine xw_iconst C (5) dX6_heir_51 (by decide) ?_
      refine xw_icmp_ne C 75 dX6_heir_52 (by decide) (fun c52 => ?_) (fun c52 => ?_)
      · have h := px_f c52 h
        refine xw_aload_n C dX6_heir_75 rfl 2 rfl ?_
        refine xw_iload_n C dX6_heir_76 rfl 3 rfl ?_
        refine xw_iload_n C dX6_heir_77 rfl 1 rfl ?_
        obtain ⟨q78, eq78, h⟩ := px_b h
        refine xw_callVI (w' := w6 E o ad x) (u := []) (v := []) C (ok_X6_sizeOf (o := o) (ad := ad) RD eq78) 2 gX6_heir_X6_sizeOf rfl ⟨rfl, rfl⟩ (by decide +kernel) ⟨Nat.le_of_ble_eq_true rfl, Nat.le_of_ble_eq_true rfl⟩ 0 6 rfl rfl rfl (Nat.le_of_ble_eq_true rfl) ⟨Nat.zero_le _, Nat.zero_le _⟩ rfl xe0 xe0.symm dX6_heir_78 ?_
        refine xw_aload_n C dX6_heir_81 rfl 2 rfl ?_
        refine xw_iload_n C dX6_heir_82 rfl 3 rfl ?_
        refine xw_iload C dX6_heir_83 0 rfl ?_
        obtain ⟨q85, eq85, h⟩ := px_b h
        refine xw_callVI (w' := w6 E o ad x) (u := []) (v := []) C (ok_X6_sizeOf (o := o) (ad := ad) RD eq85) 2 gX6_heir_X6_sizeOf rfl ⟨rfl, rfl⟩ (by decide +kernel) ⟨Nat.le_of_ble_eq_true rfl, Nat.le_of_ble_eq_true rfl⟩ 0 6 rfl rfl rfl (Nat.le_of_ble_eq_true rfl) ⟨Nat.zero_le _, Nat.zero_le _⟩ rfl xe0 xe0.symm dX6_heir_85 ?_
        refine xw_icmp_lt C 95 dX6_heir_88 (by decide) (fun c88 => ?_) (fun c88 => ?_)
        · have h := px_t c88 h
          refine xw_iconst C (0) dX6_heir_95 (by decide) ?_
          refine xw_perm [1, 0] rfl ?_
          exact hJ96 _ _ _ h
        · have h := px_f c88 h
          refine xw_iconst C (1) dX6_heir_91 (by decide) ?_
          refine xw_goto C 96 dX6_heir_92 (by decide) ?_
          refine xw_perm [1, 0] rfl ?_
          exact hJ96 _ _ _ h
      · have h := px_t c52 h
        refine xw_iload_n C dX6_heir_55 rfl 1 rfl ?_
        obtain ⟨q56, eq56, h⟩ := px_b h
        refine xw_callSI (w' := w6 E o ad x) (u := []) (v := w6 E o ad x) C (ok_X6_weight  eq56) 1 gX6_heir_X6_weight rfl ⟨rfl, rfl⟩ (by decide +kernel) ⟨Nat.le_of_ble_eq_true rfl, Nat.le_of_ble_eq_true rfl⟩ rfl (Nat.le_of_ble_eq_true rfl) ⟨Nat.zero_le _, Nat.zero_le _⟩ rfl rfl rfl dX6_heir_56 ?_
        refine xw_iload C dX6_heir_59 0 rfl ?_
        obtain ⟨q61, eq61, h⟩ := px_b h
        refine xw_callSI (w' := w6 E o ad x) (u := []) (v := w6 E o ad x) C (ok_X6_weight  eq61) 1 gX6_heir_X6_weight rfl ⟨rfl, rfl⟩ (by decide +kernel) ⟨Nat.le_of_ble_eq_true rfl, Nat.le_of_ble_eq_true rfl⟩ rfl (Nat.le_of_ble_eq_true rfl) ⟨Nat.zero_le _, Nat.zero_le _⟩ rfl rfl rfl dX6_heir_61 ?_
        refine xw_icmp_le C 71 dX6_heir_64 (by decide) (fun c64 => ?_) (fun c64 => ?_)
        · have h := px_t c64 h
          refine xw_iconst C (0) dX6_heir_71 (by decide) ?_
          refine xw_goto C 96 dX6_heir_72 (by decide) ?_
          refine xw_perm [1, 0] rfl ?_
          exact hJ96 _ _ _ h
        · have h := px_f c64 h
          refine xw_iconst C (1) dX6_heir_67 (by decide) ?_
          refine xw_goto C 96 dX6_heir_68 (by decide) ?_
          refine xw_perm [1, 0] rfl ?_
          exact hJ96 _ _ _ h
    · have h := px_f c31 h
      refine xw_perm [1, 0] rfl ?_
      exact hJ34 _ _ h
