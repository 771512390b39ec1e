def fX6_pages_J151 (k102 : Int32 → Int32 → Int32 → Int32 → Int32 → Ob → Option (Int32 × Ob)) (v1 : Int32) (v2 : Int32) (v3 : Int32) (v4 : Int32) (s0 : Int32) (x : Ob) : Option (Int32 × Ob) :=
  k102 v1 v2 v3 v4 s0 x
def fX6_pages_L102 (k82 : Int32 → Int32 → Int32 → Int32 → Int32 → Ob → Option (Int32 × Ob)) : Nat → Int32 → Int32 → Int32 → Int32 → Int32 → Ob → Option (Int32 × Ob)
  | 0, _, _, _, _, _, _ => none
  | n + 1, v1, v2, v3, v4, v5, x =>
  (if v5 = v3 then
    k82 v1 v2 v3 v4 v5 x
  else
    ix v5 64 (fun j114 =>
    (if (x.2 24 j114) < 0 then
      k82 v1 v2 v3 v4 v5 x
    else
      (if v5 ≤ v3 then
        ix (((64) * v1) + v5) 512 (fun j150 =>
        fX6_pages_J151 (fX6_pages_L102 k82 n) v1 v2 v3 v4 ((x.2 6 j150)) x)
      else
        ix (((64) * v1) + v5) 512 (fun j135 =>
        fX6_pages_J151 (fX6_pages_L102 k82 n) v1 v2 v3 v4 ((x.2 5 j135)) x)))))
def fX6_pages_L82 : Nat → Int32 → Int32 → Int32 → Int32 → Int32 → Ob → Option (Int32 × Ob)
  | 0, _, _, _, _, _, _ => none
  | n + 1, v1, v2, v3, v4, v5, x =>
  ix v3 64 (fun j87 =>
  (if 0 ≤ (x.2 24 j87) then
    some (v4, x)
  else
    Option.bind (fX6_lays v1 v5 v2 x) (fun q96 =>
    px_let (v4 + (1) : Int32) (fun b99 =>
    fX6_pages_L102 (fX6_pages_L82 n) FU v1 v2 v3 b99 v5 q96))))
def fX6_pages_J71 (v1 : Int32) (v2 : Int32) (v3 : Int32) (x : Ob) : Option (Int32 × Ob) :=
  ix v1 8 (fun j79 =>
  px_let ((x.2 3 j79) : Int32) (fun b80 =>
  fX6_pages_L82 FU v1 v2 v3 (0) b80 x))
def fX6_pages_L50 : Nat → Int32 → Int32 → Int32 → Int32 → Ob → Option (Int32 × Ob)
  | 0, _, _, _, _, _ => none
  | n + 1, v1, v2, v3, v4, x =>
  (if (64) ≤ v4 then
    fX6_pages_J71 v1 v2 v3 x
  else
    ix v4 64 (fun j64 =>
    px_let (ob_a x 24 j64 (-1)) (fun x_64 =>
    px_let (v4 + (1) : Int32) (fun b65 =>
    fX6_pages_L50 n v1 v2 v3 b65 x_64))))
def fX6_pages (p1 : Int32) (p2 : Int32) (p3 : Int32) (x : Ob) : Option (Int32 × Ob) :=
  px_let (ob_i x 0 (0)) (fun x_2 =>
  Option.bind (fX6_isTree p1 x_2) (fun q7 =>
  (if q7 = 0 then
    some ((-1), x_2)
  else
    (if p2 < (1) then
      some ((-1), x_2)
    else
      (if (16) < p2 then
        some ((-1), x_2)
      else
        Option.bind (fX6_isKey p3) (fun q25 =>
        (if q25 = 0 then
          some ((-1), x_2)
        else
          ix (((64) * p1) + p3) 512 (fun j41 =>
          (if (x_2.2 7 j41) = 0 then
            some ((-1), x_2)
          else
            fX6_pages_L50 FU p1 p2 p3 (0) x_2)))))))))
abbrev rmX6_pages : Room := { frames := 1, cells := 0, slots := 0, locals := 27 }
set_option maxHeartbeats 4000000 in
set_option maxRecDepth 100000 in
theorem ok_X6_pages {l : Launch} {E : En} {o : Nat} {ad : (Nat → Nat)} {p1 : Int32} {p2 : Int32} {p3 : Int32} {x : Ob} {r : Int32 × Ob} (hf : fX6_pages p1 p2 p3 x = some r) : CI l yX6_pages wsX6_pages (rmX6_pages) [.ref o, .int p1, .int p2, .int p3] E (w6 E o ad x) (w6 E o ad r.2) (r.1) := by
  refine xc_I (by decide) rfl (Nat.le_of_ble_eq_true rfl) [(0, .ref o), (1, .int p1), (2, .int p2), (3, .int p3)] rfl (fun p e s m below meth c A C hr => ?_)
  generalize ([.ref o, .int p1, .int p2, .int p3] : List Value).toArray = args at C ⊢
  obtain ⟨Z, hZ⟩ : ∃ Z, Z = ZI E (w6 E o ad r.2) (r.1) A below args s 0 0 := ⟨_, rfl⟩
  rw [← hZ]
  have in6 : ∀ w ∈ wsX60, w ∈ wsX6_pages := by decide +kernel
  have m13 : Cond.fieldLink RX6 13 "TurningTreesModel" "root" "[I" ∈ wsX6_pages := by decide +kernel
  have m19 : Cond.fieldLink RX6 19 "TurningTreesModel" "left" "[I" ∈ wsX6_pages := by decide +kernel
  have m22 : Cond.fieldLink RX6 22 "TurningTreesModel" "right" "[I" ∈ wsX6_pages := by decide +kernel
  have m25 : Cond.fieldLink RX6 25 "TurningTreesModel" "isIn" "[Z" ∈ wsX6_pages := by decide +kernel
  have m68 : Cond.fieldLink RX6 68 "TurningTreesModel" "pageOf" "[I" ∈ wsX6_pages := by decide +kernel
  have m77 : Cond.fieldLink RX6 77 "TurningTreesModel" "thrown" "I" ∈ wsX6_pages := by decide +kernel
  have hJ151 : ∀ (k102 : Int32 → Int32 → Int32 → Int32 → Int32 → Ob → Option (Int32 × Ob)), (∀ (v1 : Int32), ∀ (v2 : Int32), ∀ (v3 : Int32), ∀ (v4 : Int32), ∀ (v5 : Int32), ∀ (x : Ob), k102 v1 v2 v3 v4 v5 x = some r → XW E p l e rmX6_pages s m args below meth c Z A 0 0 (w6 E o ad x) 102 6 [(0, .ref o), (1, .int v1), (2, .int v2), (3, .int v3), (4, .int v4), (5, .int v5)] []) → ∀ (v1 : Int32), ∀ (v2 : Int32), ∀ (v3 : Int32), ∀ (v4 : Int32), ∀ (s0 : Int32), ∀ (x : Ob), fX6_pages_J151 k102 v1 v2 v3 v4 s0 x = some r → XW E p l e rmX6_pages s m args below meth c Z A 0 0 (w6 E o ad x) 151 6 [(0, .ref o), (1, .int v1), (2, .int v2), (3, .int v3), (4, .int v4)] [.int s0] := by
    intro k102 hk102 v1 v2 v3 v4 s0 x h
    rw [fX6_pages_J151] at h
    refine xw_istore C dX6_pages_151 (by decide) (lv' := [(5, .int s0), (0, .ref o), (1, .int v1), (2, .int v2), (3, .int v3), (4, .int v4)]) rfl ?_
    refine xw_goto C 102 dX6_pages_153 (by decide) ?_
    refine xw_perm [1, 2, 3, 4, 5, 0] rfl ?_
    exact hk102 _ _ _ _ _ _ h
  have hL102 : ∀ (k82 : Int32 → Int32 → Int32 → Int32 → Int32 → Ob → Option (Int32 × Ob)), (∀ (v1 : Int32), ∀ (v2 : Int32), ∀ (v3 : Int32), ∀ (v4 : Int32), ∀ (v5 : Int32), ∀ (x : Ob), k82 v1 v2 v3 v4 v5 x = some r → XW E p l e rmX6_pages s m args below meth c Z A 0 0 (w6 E o ad x) 82 6 [(0, .ref o), (1, .int v1), (2, .int v2), (3, .int v3), (4, .int v4), (5, .int v5)] []) → ∀ n : Nat, ∀ (v1 : Int32), ∀ (v2 : Int32), ∀ (v3 : Int32), ∀ (v4 : Int32), ∀ (v5 : Int32), ∀ (x : Ob), fX6_pages_L102 k82 n v1 v2 v3 v4 v5 x = some r → XW E p l e rmX6_pages s m args below meth c Z A 0 0 (w6 E o ad x) 102 6 [(0, .ref o), (1, .int v1), (2, .int v2), (3, .int v3), (4, .int v4), (5, .int v5)] [] := by
    intro k82 hk82 n
    induction n with
    | zero =>
      intro v1 v2 v3 v4 v5 x h
      rw [fX6_pages_L102] at h
      cases h
    | succ n ih =>
      intro v1 v2 v3 v4 v5 x h
      rw [fX6_pages_L102] at h
      refine xw_iload C dX6_pages_102 5 rfl ?_
      refine xw_iload_n C dX6_pages_104 rfl 3 rfl ?_
      refine xw_icmp_eq C 82 dX6_pages_105 (by decide) (fun c105 => ?_) (fun c105 => ?_)
      · have h := px_t c105 h
        exact hk82 _ _ _ _ _ _ h
      · have h := px_f c105 h
        refine xw_aload_n C dX6_pages_108 rfl 0 rfl ?_
        refine xw_get C in6 0 rfl rfl 24 (by decide) m68 rfl rfl dX6_pages_109 ?_
        refine xw_iload C dX6_pages_112 5 rfl ?_
        obtain ⟨g114, h⟩ := px_x h
        refine xw_iald C 20 rfl g114 dX6_pages_114 ?_
        refine xw_if_lt C 82 dX6_pages_115 (by decide) (fun c115 => ?_) (fun c115 => ?_)
        · have h := px_t c115 h
          exact hk82 _ _ _ _ _ _ h
        · have h := px_f c115 h
          refine xw_iload_n C dX6_pages_118 rfl 3 rfl ?_
          refine xw_iload C dX6_pages_119 5 rfl ?_
          refine xw_icmp_ge C 139 dX6_pages_121 (by decide) (fun c121 => ?_) (fun c121 => ?_)
          · have h := px_t c121 h
            refine xw_aload_n C dX6_pages_139 rfl 0 rfl ?_
            refine xw_get C in6 0 rfl rfl 6 (by decide) m22 rfl rfl dX6_pages_140 ?_
            refine xw_bipush C (64) dX6_pages_143 (by decide) ?_
            refine xw_iload_n C dX6_pages_145 rfl 1 rfl ?_
            refine xw_imul C dX6_pages_146 ?_
            refine xw_iload C dX6_pages_147 5 rfl ?_
            refine xw_iadd C dX6_pages_149 ?_
            obtain ⟨g150, h⟩ := px_x h
            refine xw_iald C 5 rfl g150 dX6_pages_150 ?_
            refine xw_perm [0, 1, 2, 3, 4] rfl ?_
            exact hJ151 _ ih _ _ _ _ _ _ h
          · have h := px_f c121 h
            refine xw_aload_n C dX6_pages_124 rfl 0 rfl ?_
            refine xw_get C in6 0 rfl rfl 5 (by decide) m19 rfl rfl dX6_pages_125 ?_
            refine xw_bipush C (64) dX6_pages_128 (by decide) ?_
            refine xw_iload_n C dX6_pages_130 rfl 1 rfl ?_
            refine xw_imul C dX6_pages_131 ?_
            refine xw_iload C dX6_pages_132 5 rfl ?_
            refine xw_iadd C dX6_pages_134 ?_
            obtain ⟨g135, h⟩ := px_x h
            refine xw_iald C 4 rfl g135 dX6_pages_135 ?_
            refine xw_goto C 151 dX6_pages_136 (by decide) ?_
            refine xw_perm [0, 1, 2, 3, 4] rfl ?_
            exact hJ151 _ ih _ _ _ _ _ _ h
  have hL82 : ∀ n : Nat, ∀ (v1 : Int32), ∀ (v2 : Int32), ∀ (v3 : Int32), ∀ (v4 : Int32), ∀ (v5 : Int32), ∀ (x : Ob), fX6_pages_L82 n v1 v2 v3 v4 v5 x = some r → XW E p l e rmX6_pages s m args below meth c Z A 0 0 (w6 E o ad x) 82 6 [(0, .ref o), (1, .int v1), (2, .int v2), (3, .int v3), (4, .int v4), (5, .int v5)] [] := by
    intro n
    induction n with
    | zero =>
      intro v1 v2 v3 v4 v5 x h
      rw [fX6_pages_L82] at h
      cases h
    | succ n ih =>
      intro v1 v2 v3 v4 v5 x h
      rw [fX6_pages_L82] at h
      refine xw_aload_n C dX6_pages_82 rfl 0 rfl ?_
      refine xw_get C in6 0 rfl rfl 24 (by decide) m68 rfl rfl dX6_pages_83 ?_
      refine xw_iload_n C dX6_pages_86 rfl 3 rfl ?_
      obtain ⟨g87, h⟩ := px_x h
      refine xw_iald C 20 rfl g87 dX6_pages_87 ?_
      refine xw_if_ge C 156 dX6_pages_88 (by decide) (fun c88 => ?_) (fun c88 => ?_)
      · have h := px_t c88 h
        refine xw_iload C dX6_pages_156 4 rfl ?_
        cases h
        rw [hZ]
        exact xw_iret C hr dX6_pages_158
      · have h := px_f c88 h
        refine xw_aload_n C dX6_pages_91 rfl 0 rfl ?_
        refine xw_iload_n C dX6_pages_92 rfl 1 rfl ?_
        refine xw_iload C dX6_pages_93 5 rfl ?_
        refine xw_iload_n C dX6_pages_95 rfl 2 rfl ?_
        obtain ⟨q96, eq96, h⟩ := px_b h
        refine xw_callVV (w' := w6 E o ad q96) (u := []) (v := []) C (ok_X6_lays (o := o) (ad := ad) (x := x) eq96) 3 gX6_pages_X6_lays rfl ⟨rfl, rfl⟩ (by decide +kernel) ⟨Nat.le_of_ble_eq_true rfl, Nat.le_of_ble_eq_true rfl⟩ 0 6 rfl rfl rfl (Nat.le_of_ble_eq_true rfl) ⟨Nat.zero_le _, Nat.zero_le _⟩ rfl xe0 xe0.symm dX6_pages_96 ?_
        refine px_n h (fun b99 eb99 h => ?_)
        refine xw_iinc (v := b99) C dX6_pages_99 4 rfl eb99 (by decide) (lv' := [(4, .int b99), (0, .ref o), (1, .int v1), (2, .int v2), (3, .int v3), (5, .int v5)]) rfl ?_
        refine xw_perm [1, 2, 3, 4, 0, 5] rfl ?_
        exact hL102 _ ih _ _ _ _ _ _ _ h
  have hJ71 : ∀ (v1 : Int32), ∀ (v2 : Int32), ∀ (v3 : Int32), ∀ (x : Ob), fX6_pages_J71 v1 v2 v3 x = some r → XW E p l e rmX6_pages s m args below meth c Z A 0 0 (w6 E o ad x) 71 6 [(0, .ref o), (1, .int v1), (2, .int v2), (3, .int v3)] [] := by
    intro v1 v2 v3 x h
    rw [fX6_pages_J71] at h
    refine xw_iconst C (0) dX6_pages_71 (by decide) ?_
    refine xw_istore C dX6_pages_72 (by decide) (lv' := [(4, .int (0)), (0, .ref o), (1, .int v1), (2, .int v2), (3, .int v3)]) rfl ?_
    refine xw_aload_n C dX6_pages_74 rfl 1 rfl ?_
    refine xw_get C in6 0 rfl rfl 3 (by decide) m13 rfl rfl dX6_pages_75 ?_
    refine xw_iload_n C dX6_pages_78 rfl 2 rfl ?_
    obtain ⟨g79, h⟩ := px_x h
    refine xw_iald C 2 rfl g79 dX6_pages_79 ?_
    refine xw_topi (fun b80 eb80 => ?_)
    have h := px_v h b80 eb80
    refine xw_istore C dX6_pages_80 (by decide) (lv' := [(5, .int b80), (4, .int (0)), (0, .ref o), (1, .int v1), (2, .int v2), (3, .int v3)]) rfl ?_
    refine xw_perm [2, 3, 4, 5, 1, 0] rfl ?_
    exact hL82 _ _ _ _ _ _ _ h
  have hL50 : ∀ n : Nat, ∀ (v1 : Int32), ∀ (v2 : Int32), ∀ (v3 : Int32), ∀ (v4 : Int32), ∀ (x : Ob), fX6_pages_L50 n v1 v2 v3 v4 x = some r → XW E p l e rmX6_pages s m args below meth c Z A 0 0 (w6 E o ad x) 50 6 [(0, .ref o), (1, .int v1), (2, .int v2), (3, .int v3), (4, .int v4)] [] := by
    intro n
    induction n with
    | zero =>
      intro v1 v2 v3 v4 x h
      rw [fX6_pages_L50] at h
      cases h
    | succ n ih =>
      intro v1 v2 v3 v4 x h
      rw [fX6_pages_L50] at h
      refine xw_iload C dX6_pages_50 4 rfl ?_
      refine xw_bipush C (64) dX6_pages_52 (by decide) ?_
      refine xw_icmp_ge C 71 dX6_pages_54 (by decide) (fun c54 => ?_) (fun c54 => ?_)
      · have h := px_t c54 h
        refine xw_perm [0, 1, 2, 3] rfl ?_
        exact hJ71 _ _ _ _ h
      · have h := px_f c54 h
        refine xw_aload_n C dX6_pages_57 rfl 0 rfl ?_
        refine xw_get C in6 0 rfl rfl 24 (by decide) m68 rfl rfl dX6_pages_58 ?_
        refine xw_iload C dX6_pages_61 4 rfl ?_
        refine xw_iconst C (-1) dX6_pages_63 (by decide) ?_
        obtain ⟨g64, h⟩ := px_x h
        refine px_n h (fun x_64 ex_64 h => ?_)
        refine xw_iast (w' := w6 E o ad x_64) C 20 rfl g64 (by rw [ex_64]; rfl) dX6_pages_64 ?_
        refine px_n h (fun b65 eb65 h => ?_)
        refine xw_iinc (v := b65) C dX6_pages_65 4 rfl eb65 (by decide) (lv' := [(4, .int b65), (0, .ref o), (1, .int v1), (2, .int v2), (3, .int v3)]) rfl ?_
        refine xw_goto C 50 dX6_pages_68 (by decide) ?_
        refine xw_perm [1, 2, 3, 4, 0] rfl ?_
        exact ih _ _ _ _ _ h
  rw [fX6_pages] at hf
  have h := hf
  refine xw_aload_n C dX6_pages_0 rfl 0 rfl ?_
  refine xw_iconst C (0) dX6_pages_1 (by decide) ?_
  refine px_n h (fun x_2 ex_2 h => ?_)
  refine xw_put (w' := w6 E o ad x_2) C in6 tyX6 tyX6_ok nmX6 0 rfl rfl 0 (by decide) m77 rfl rfl rfl (Nat.le_of_ble_eq_true rfl) (by rw [ex_2]; rfl) dX6_pages_2 ?_
  refine xw_aload_n C dX6_pages_5 rfl 0 rfl ?_
  refine xw_iload_n C dX6_pages_6 rfl 1 rfl ?_
  obtain ⟨q7, eq7, h⟩ := px_b h
  refine xw_callVI (w' := w6 E o ad x_2) (u := []) (v := []) C (ok_X6_isTree (o := o) (ad := ad) (x := x_2) eq7) 1 gX6_pages_X6_isTree rfl ⟨rfl, rfl⟩ (by decide +kernel) ⟨Nat.le_of_ble_eq_true rfl, Nat.le_of_ble_eq_true rfl⟩ 0 6 rfl rfl rfl (Nat.le_of_ble_eq_true rfl) ⟨Nat.zero_le _, Nat.zero_le _⟩ rfl xe0 xe0.symm dX6_pages_7 ?_
  refine xw_if_eq C 45 dX6_pages_10 (by decide) (fun c10 => ?_) (fun c10 => ?_)
  · have h := px_t c10 h
    refine xw_iconst C (-1) dX6_pages_45 (by decide) ?_
    cases h
    rw [hZ]
    exact xw_iret C hr dX6_pages_46
  · have h := px_f c10 h
    refine xw_iload_n C dX6_pages_13 rfl 2 rfl ?_
    refine xw_iconst C (1) dX6_pages_14 (by decide) ?_
    refine xw_icmp_lt C 45 dX6_pages_15 (by decide) (fun c15 => ?_) (fun c15 => ?_)
    · have h := px_t c15 h
      refine xw_iconst C (-1) dX6_pages_45 (by decide) ?_
      cases h
      rw [hZ]
      exact xw_iret C hr dX6_pages_46
    · have h := px_f c15 h
      refine xw_iload_n C dX6_pages_18 rfl 2 rfl ?_
      refine xw_bipush C (16) dX6_pages_19 (by decide) ?_
      refine xw_icmp_gt C 45 dX6_pages_21 (by decide) (fun c21 => ?_) (fun c21 => ?_)
      · have h := px_t c21 h
        refine xw_iconst C (-1) dX6_pages_45 (by decide) ?_
        cases h
        rw [hZ]
        exact xw_iret C hr dX6_pages_46
      · have h := px_f c21 h
        refine xw_iload_n C dX6_pages_24 rfl 3 rfl ?_
        obtain ⟨q25, eq25, h⟩ := px_b h
        refine xw_callSI (w' := w6 E o ad x_2) (u := []) (v := w6 E o ad x_2) C (ok_X6_isKey  eq25) 1 gX6_pages_X6_isKey rfl ⟨rfl, rfl⟩ (by decide +kernel) ⟨Nat.le_of_ble_eq_true rfl, Nat.le_of_ble_eq_true rfl⟩ rfl (Nat.le_of_ble_eq_true rfl) ⟨Nat.zero_le _, Nat.zero_le _⟩ rfl rfl rfl dX6_pages_25 ?_
        refine xw_if_eq C 45 dX6_pages_28 (by decide) (fun c28 => ?_) (fun c28 => ?_)
        · have h := px_t c28 h
          refine xw_iconst C (-1) dX6_pages_45 (by decide) ?_
          cases h
          rw [hZ]
          exact xw_iret C hr dX6_pages_46
        · have h := px_f c28 h
          refine xw_aload_n C dX6_pages_31 rfl 0 rfl ?_
          refine xw_get C in6 0 rfl rfl 7 (by decide) m25 rfl rfl dX6_pages_32 ?_
          refine xw_bipush C (64) dX6_pages_35 (by decide) ?_
          refine xw_iload_n C dX6_pages_37 rfl 1 rfl ?_
          refine xw_imul C dX6_pages_38 ?_
          refine xw_iload_n C dX6_pages_39 rfl 3 rfl ?_
          refine xw_iadd C dX6_pages_40 ?_
          obtain ⟨g41, h⟩ := px_x h
          refine xw_zald C 6 rfl g41 dX6_pages_41 ?_
          refine xw_if_ne C 47 dX6_pages_42 (by decide) (fun c42 => ?_) (fun c42 => ?_)
          · have h := px_f c42 h
            refine xw_iconst C (0) dX6_pages_47 (by decide) ?_
            refine xw_istore C dX6_pages_48 (by decide) (lv' := [(4, .int (0)), (0, .ref o), (1, .int p1), (2, .int p2), (3, .int p3)]) rfl ?_
            refine xw_perm [1, 2, 3, 4, 0] rfl ?_
            exact hL50 _ _ _ _ _ _ h
          · have h := px_t c42 h
            refine xw_iconst C (-1) dX6_pages_45 (by decide) ?_
            cases h
            rw [hZ]
            exact xw_iret C hr dX6_pages_46
def fX6_keep_J69 (k26 : Int32 → Int32 → Ob → Option (Int32 × Ob)) (v1 : Int32) (v2 : Int32) (s0 : Int32) (s1 : Int32) (x : Ob) : Option (Int32 × Ob) :=
  ix s0 1280 (fun j69 =>
  px_let (ob_a x 27 j69 s1) (fun x_69 =>
  px_let (v2 + (1) : Int32) (fun b70 =>
  k26 v1 b70 x_69)))
def fX6_keep_J76 (x : Ob) : Option (Int32 × Ob) :=
  px_let (ob_i x 26 ((x.1 26) + (1))) (fun x_83 =>
  some (((x_83.1 26) - (1)), x_83))
def fX6_keep_L26 : Nat → Int32 → Int32 → Ob → Option (Int32 × Ob)
  | 0, _, _, _ => none
  | n + 1, v1, v2, x =>
  (if (64) ≤ v2 then
    fX6_keep_J76 x
  else
    ix (((64) * v1) + v2) 512 (fun j55 =>
    (if (x.2 7 j55) = 0 then
      fX6_keep_J69 (fX6_keep_L26 n) v1 v2 ((((64) * (x.1 26)) + v2)) (0) x
    else
      Option.bind (fX6_depthOf v1 v2 x) (fun q62 =>
      fX6_keep_J69 (fX6_keep_L26 n) v1 v2 ((((64) * (x.1 26)) + v2)) q62 x))))
def fX6_keep (p1 : Int32) (x : Ob) : Option (Int32 × Ob) :=
  px_let (ob_i x 0 (0)) (fun x_2 =>
  Option.bind (fX6_isTree p1 x_2) (fun q7 =>
  (if q7 = 0 then
    some ((-1), x_2)
  else
    (if (x_2.1 26) = (20) then
      some ((-1), x_2)
    else
      fX6_keep_L26 FU p1 (0) x_2))))
abbrev rmX6_keep : Room := { frames := 1, cells := 0, slots := 0, locals := 24 }
set_option maxHeartbeats 4000000 in
set_option maxRecDepth 100000 in
theorem ok_X6_keep {l : Launch} {E : En} {o : Nat} {ad : (Nat → Nat)} {p1 : Int32} {x : Ob} {r : Int32 × Ob} (hf : fX6_keep p1 x = some r) : CI l yX6_keep wsX6_keep (rmX6_keep) [.ref o, .int p1] E (w6 E o ad x) (w6 E o ad r.2) (r.1) := by
  refine xc_I (by decide) rfl (Nat.le_of_ble_eq_true rfl) [(0, .ref o), (1, .int p1)] rfl (fun p e s m below meth c A C hr => ?_)
  generalize ([.ref o, .int p1] : List Value).toArray = args at C ⊢
  obtain ⟨Z, hZ⟩ : ∃ Z, Z = ZI E (w6 E o ad r.2) (r.1) A below args s 0 0 := ⟨_, rfl⟩
  rw [← hZ]
  have in6 : ∀ w ∈ wsX60, w ∈ wsX6_keep := by decide +kernel
  have m25 : Cond.fieldLink RX6 25 "TurningTreesModel" "isIn" "[Z" ∈ wsX6_keep := by decide +kernel
  have m74 : Cond.fieldLink RX6 74 "TurningTreesModel" "keptDepth" "[I" ∈ wsX6_keep := by decide +kernel
  have m77 : Cond.fieldLink RX6 77 "TurningTreesModel" "thrown" "I" ∈ wsX6_keep := by decide +kernel
  have m197 : Cond.fieldLink RX6 197 "TurningTreesModel" "keeps" "I" ∈ wsX6_keep := by decide +kernel
  have hJ69 : ∀ (k26 : Int32 → Int32 → Ob → Option (Int32 × Ob)), (∀ (v1 : Int32), ∀ (v2 : Int32), ∀ (x : Ob), k26 v1 v2 x = some r → XW E p l e rmX6_keep s m args below meth c Z A 0 0 (w6 E o ad x) 26 3 [(0, .ref o), (1, .int v1), (2, .int v2)] []) → ∀ (v1 : Int32), ∀ (v2 : Int32), ∀ (s0 : Int32), ∀ (s1 : Int32), ∀ (x : Ob), fX6_keep_J69 k26 v1 v2 s0 s1 x = some r → XW E p l e rmX6_keep s m args below meth c Z A 0 0 (w6 E o ad x) 69 3 [(0, .ref o), (1, .int v1), (2, .int v2)] [.int s1, .int s0, .ref (ad 27)] := by
    intro k26 hk26 v1 v2 s0 s1 x h
    rw [fX6_keep_J69] at h
    obtain ⟨g69, h⟩ := px_x h
    refine px_n h (fun x_69 ex_69 h => ?_)
    refine xw_iast (w' := w6 E o ad x_69) C 22 rfl g69 (by rw [ex_69]; rfl) dX6_keep_69 ?_
    refine px_n h (fun b70 eb70 h => ?_)
    refine xw_iinc (v := b70) C dX6_keep_70 2 rfl eb70 (by decide) (lv' := [(2, .int b70), (0, .ref o), (1, .int v1)]) rfl ?_
    refine xw_goto C 26 dX6_keep_73 (by decide) ?_
    refine xw_perm [1, 2, 0] rfl ?_
    exact hk26 _ _ _ h
  have hJ76 : ∀ (x : Ob), fX6_keep_J76 x = some r → XW E p l e rmX6_keep s m args below meth c Z A 0 0 (w6 E o ad x) 76 3 [(0, .ref o)] [] := by
    intro x h
    rw [fX6_keep_J76] at h
    refine xw_aload_n C dX6_keep_76 rfl 0 rfl ?_
    refine xw_dup C dX6_keep_77 rfl ?_
    refine xw_get C in6 0 rfl rfl 26 (by decide) m197 rfl rfl dX6_keep_78 ?_
    refine xw_iconst C (1) dX6_keep_81 (by decide) ?_
    refine xw_iadd C dX6_keep_82 ?_
    refine px_n h (fun x_83 ex_83 h => ?_)
    refine xw_put (w' := w6 E o ad x_83) C in6 tyX6 tyX6_ok nmX6 0 rfl rfl 26 (by decide) m197 rfl rfl rfl (Nat.le_of_ble_eq_true rfl) (by rw [ex_83]; rfl) dX6_keep_83 ?_
    refine xw_aload_n C dX6_keep_86 rfl 0 rfl ?_
    refine xw_get C in6 0 rfl rfl 26 (by decide) m197 rfl rfl dX6_keep_87 ?_
    refine xw_iconst C (1) dX6_keep_90 (by decide) ?_
    refine xw_isub C dX6_keep_91 ?_
    cases h
    rw [hZ]
    exact xw_iret C hr dX6_keep_92
  have hL26 : ∀ n : Nat, ∀ (v1 : Int32), ∀ (v2 : Int32), ∀ (x : Ob), fX6_keep_L26 n v1 v2 x = some r → XW E p l e rmX6_keep s m args below meth c Z A 0 0 (w6 E o ad x) 26 3 [(0, .ref o), (1, .int v1), (2, .int v2)] [] := by
    intro n
    induction n with
    | zero =>
      intro v1 v2 x h
      rw [fX6_keep_L26] at h
      cases h
    | succ n ih =>
      intro v1 v2 x h
      rw [fX6_keep_L26] at h
      refine xw_iload_n C dX6_keep_26 rfl 2 rfl ?_
      refine xw_bipush C (64) dX6_keep_27 (by decide) ?_
      refine xw_icmp_ge C 76 dX6_keep_29 (by decide) (fun c29 => ?_) (fun c29 => ?_)
      · have h := px_t c29 h
        refine xw_perm [0] rfl ?_
        exact hJ76 _ h
      · have h := px_f c29 h
        refine xw_aload_n C dX6_keep_32 rfl 0 rfl ?_
        refine xw_get C in6 0 rfl rfl 27 (by decide) m74 rfl rfl dX6_keep_33 ?_
        refine xw_bipush C (64) dX6_keep_36 (by decide) ?_
        refine xw_aload_n C dX6_keep_38 rfl 0 rfl ?_
        refine xw_get C in6 0 rfl rfl 26 (by decide) m197 rfl rfl dX6_keep_39 ?_
        refine xw_imul C dX6_keep_42 ?_
        refine xw_iload_n C dX6_keep_43 rfl 2 rfl ?_
        refine xw_iadd C dX6_keep_44 ?_
        refine xw_aload_n C dX6_keep_45 rfl 0 rfl ?_
        refine xw_get C in6 0 rfl rfl 7 (by decide) m25 rfl rfl dX6_keep_46 ?_
        refine xw_bipush C (64) dX6_keep_49 (by decide) ?_
        refine xw_iload_n C dX6_keep_51 rfl 1 rfl ?_
        refine xw_imul C dX6_keep_52 ?_
        refine xw_iload_n C dX6_keep_53 rfl 2 rfl ?_
        refine xw_iadd C dX6_keep_54 ?_
        obtain ⟨g55, h⟩ := px_x h
        refine xw_zald C 6 rfl g55 dX6_keep_55 ?_
        refine xw_if_eq C 68 dX6_keep_56 (by decide) (fun c56 => ?_) (fun c56 => ?_)
        · have h := px_t c56 h
          refine xw_iconst C (0) dX6_keep_68 (by decide) ?_
          exact hJ69 _ ih _ _ _ _ _ h
        · have h := px_f c56 h
          refine xw_aload_n C dX6_keep_59 rfl 0 rfl ?_
          refine xw_iload_n C dX6_keep_60 rfl 1 rfl ?_
          refine xw_iload_n C dX6_keep_61 rfl 2 rfl ?_
          obtain ⟨q62, eq62, h⟩ := px_b h
          refine xw_callVI (w' := w6 E o ad x) (u := []) (v := []) C (ok_X6_depthOf (o := o) (ad := ad) (x := x) eq62) 2 gX6_keep_X6_depthOf rfl ⟨rfl, rfl⟩ (by decide +kernel) ⟨Nat.le_of_ble_eq_true rfl, Nat.le_of_ble_eq_true rfl⟩ 0 6 rfl rfl rfl (Nat.le_of_ble_eq_true rfl) ⟨Nat.zero_le _, Nat.zero_le _⟩ rfl xe0 xe0.symm dX6_keep_62 ?_
          refine xw_goto C 69 dX6_keep_65 (by decide) ?_
          exact hJ69 _ ih _ _ _ _ _ h
  rw [fX6_keep] at hf
  have h := hf
  refine xw_aload_n C dX6_keep_0 rfl 0 rfl ?_
  refine xw_iconst C (0) dX6_keep_1 (by decide) ?_
  refine px_n h (fun x_2 ex_2 h => ?_)
  refine xw_put (w' := w6 E o ad x_2) C in6 tyX6 tyX6_ok nmX6 0 rfl rfl 0 (by decide) m77 rfl rfl rfl (Nat.le_of_ble_eq_true rfl) (by rw [ex_2]; rfl) dX6_keep_2 ?_
  refine xw_aload_n C dX6_keep_5 rfl 0 rfl ?_
  refine xw_iload_n C dX6_keep_6 rfl 1 rfl ?_
  obtain ⟨q7, eq7, h⟩ := px_b h
  refine xw_callVI (w' := w6 E o ad x_2) (u := []) (v := []) C (ok_X6_isTree (o := o) (ad := ad) (x := x_2) eq7) 1 gX6_keep_X6_isTree rfl ⟨rfl, rfl⟩ (by decide +kernel) ⟨Nat.le_of_ble_eq_true rfl, Nat.le_of_ble_eq_true rfl⟩ 0 6 rfl rfl rfl (Nat.le_of_ble_eq_true rfl) ⟨Nat.zero_le _, Nat.zero_le _⟩ rfl xe0 xe0.symm dX6_keep_7 ?_
  refine xw_if_eq C 22 dX6_keep_10 (by decide) (fun c10 => ?_) (fun c10 => ?_)
  · have h := px_t c10 h
    refine xw_iconst C (-1) dX6_keep_22 (by decide) ?_
    cases h
    rw [hZ]
    exact xw_iret C hr dX6_keep_23
  · have h := px_f c10 h
    refine xw_aload_n C dX6_keep_13 rfl 0 rfl ?_
    refine xw_get C in6 0 rfl rfl 26 (by decide) m197 rfl rfl dX6_keep_14 ?_
    refine xw_bipush C (20) dX6_keep_17 (by decide) ?_
    refine xw_icmp_ne C 24 dX6_keep_19 (by decide) (fun c19 => ?_) (fun c19 => ?_)
    · have h := px_f c19 h
      refine xw_iconst C (0) dX6_keep_24 (by decide) ?_
      refine xw_istore_n C dX6_keep_25 rfl (by decide) (lv' := [(2, .int (0)), (0, .ref o), (1, .int p1)]) rfl ?_
      refine xw_perm [1, 2, 0] rfl ?_
      exact hL26 _ _ _ _ h
    · have h := px_t c19 h
      refine xw_iconst C (-1) dX6_keep_22 (by decide) ?_
      cases h
      rw [hZ]
      exact xw_iret C hr dX6_keep_23
def fX6_kept (p1 : Int32) (p2 : Int32) (x : Ob) : Option (Int32 × Ob) :=
  px_let (ob_i x 0 (0)) (fun x_2 =>
  (if p1 < 0 then
    some ((-1), x_2)
  else
    (if (x_2.1 26) ≤ p1 then
      some ((-1), x_2)
    else
      Option.bind (fX6_isKey p2) (fun q18 =>
      (if q18 = 0 then
        some ((-1), x_2)
      else
        ix (((64) * p1) + p2) 1280 (fun j38 =>
        some ((x_2.2 27 j38), x_2)))))))
abbrev rmX6_kept : Room := { frames := 1, cells := 0, slots := 0, locals := 20 }
set_option maxHeartbeats 4000000 in
set_option maxRecDepth 100000 in
theorem ok_X6_kept {l : Launch} {E : En} {o : Nat} {ad : (Nat → Nat)} {p1 : Int32} {p2 : Int32} {x : Ob} {r : Int32 × Ob} (hf : fX6_kept p1 p2 x = some r) : CI l yX6_kept wsX6_kept (rmX6_kept) [.ref o, .int p1, .int p2] E (w6 E o ad x) (w6 E o ad r.2) (r.1) := by
  refine xc_I (by decide) rfl (Nat.le_of_ble_eq_true rfl) [(0, .ref o), (1, .int p1), (2, .int p2)] rfl (fun p e s m below meth c A C hr => ?_)
  generalize ([.ref o, .int p1, .int p2] : List Value).toArray = args at C ⊢
  obtain ⟨Z, hZ⟩ : ∃ Z, Z = ZI E (w6 E o ad r.2) (r.1) A below args s 0 0 := ⟨_, rfl⟩
  rw [← hZ]
  have in6 : ∀ w ∈ wsX60, w ∈ wsX6_kept := by decide +kernel
  have m74 : Cond.fieldLink RX6 74 "TurningTreesModel" "keptDepth" "[I" ∈ wsX6_kept := by decide +kernel
  have m77 : Cond.fieldLink RX6 77 "TurningTreesModel" "thrown" "I" ∈ wsX6_kept := by decide +kernel
  have m197 : Cond.fieldLink RX6 197 "TurningTreesModel" "keeps" "I" ∈ wsX6_kept := by decide +kernel
  rw [fX6_kept] at hf
  have h := hf
  refine xw_aload_n C dX6_kept_0 rfl 0 rfl ?_
  refine xw_iconst C (0) dX6_kept_1 (by decide) ?_
  refine px_n h (fun x_2 ex_2 h => ?_)
  refine xw_put (w' := w6 E o ad x_2) C in6 tyX6 tyX6_ok nmX6 0 rfl rfl 0 (by decide) m77 rfl rfl rfl (Nat.le_of_ble_eq_true rfl) (by rw [ex_2]; rfl) dX6_kept_2 ?_
  refine xw_iload_n C dX6_kept_5 rfl 1 rfl ?_
  refine xw_if_lt C 24 dX6_kept_6 (by decide) (fun c6 => ?_) (fun c6 => ?_)
  · have h := px_t c6 h
    refine xw_iconst C (-1) dX6_kept_24 (by decide) ?_
    refine xw_goto C 39 dX6_kept_25 (by decide) ?_
    cases h
    rw [hZ]
    exact xw_iret C hr dX6_kept_39
  · have h := px_f c6 h
    refine xw_iload_n C dX6_kept_9 rfl 1 rfl ?_
    refine xw_aload_n C dX6_kept_10 rfl 0 rfl ?_
    refine xw_get C in6 0 rfl rfl 26 (by decide) m197 rfl rfl dX6_kept_11 ?_
    refine xw_icmp_ge C 24 dX6_kept_14 (by decide) (fun c14 => ?_) (fun c14 => ?_)
    · have h := px_t c14 h
      refine xw_iconst C (-1) dX6_kept_24 (by decide) ?_
      refine xw_goto C 39 dX6_kept_25 (by decide) ?_
      cases h
      rw [hZ]
      exact xw_iret C hr dX6_kept_39
    · have h := px_f c14 h
      refine xw_iload_n C dX6_kept_17 rfl 2 rfl ?_
      obtain ⟨q18, eq18, h⟩ := px_b h
      refine xw_callSI (w' := w6 E o ad x_2) (u := []) (v := w6 E o ad x_2) C (ok_X6_isKey  eq18) 1 gX6_kept_X6_isKey rfl ⟨rfl, rfl⟩ (by decide +kernel) ⟨Nat.le_of_ble_eq_true rfl, Nat.le_of_ble_eq_true rfl⟩ rfl (Nat.le_of_ble_eq_true rfl) ⟨Nat.zero_le _, Nat.zero_le _⟩ rfl rfl rfl dX6_kept_18 ?_
      refine xw_if_ne C 28 dX6_kept_21 (by decide) (fun c21 => ?_) (fun c21 => ?_)
      · have h := px_f c21 h
        refine xw_aload_n C dX6_kept_28 rfl 0 rfl ?_
        refine xw_get C in6 0 rfl rfl 27 (by decide) m74 rfl rfl dX6_kept_29 ?_
        refine xw_bipush C (64) dX6_kept_32 (by decide) ?_
        refine xw_iload_n C dX6_kept_34 rfl 1 rfl ?_
        refine xw_imul C dX6_kept_35 ?_
        refine xw_iload_n C dX6_kept_36 rfl 2 rfl ?_
        refine xw_iadd C dX6_kept_37 ?_
        obtain ⟨g38, h⟩ := px_x h
        refine xw_iald C 22 rfl g38 dX6_kept_38 ?_
        cases h
        rw [hZ]
        exact xw_iret C hr dX6_kept_39
      · have h := px_t c21 h
        refine xw_iconst C (-1) dX6_kept_24 (by decide) ?_
        refine xw_goto C 39 dX6_kept_25 (by decide) ?_
        cases h
        rw [hZ]
        exact xw_iret C hr dX6_kept_39
