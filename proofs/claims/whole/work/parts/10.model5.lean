def fX6_best_J104 (k64 : Int32 → Int32 → Int32 → Int32 → Int32 → Ob → Option (Int32 × Ob)) (v1 : Int32) (v2 : Int32) (v3 : Int32) (v4 : Int32) (v5 : Int32) (s0 : Int32) (s1 : Int32) (s2 : Int32) (x : Ob) : Option (Int32 × Ob) :=
  ix s0 64 (fun j105 =>
  px_let (ob_a x 19 j105 (s1 + s2)) (fun x_105 =>
  px_let (v5 + (1) : Int32) (fun b106 =>
  k64 v1 v2 v3 v4 b106 x_105)))
def fX6_best_J123 (k29 : Int32 → Int32 → Int32 → Int32 → Ob → Option (Int32 × Ob)) (v1 : Int32) (v2 : Int32) (v3 : Int32) (v4 : Int32) (x : Ob) : Option (Int32 × Ob) :=
  px_let (v4 + (1) : Int32) (fun b123 =>
  k29 v1 v2 v3 b123 x)
def fX6_best_J112 (k29 : Int32 → Int32 → Int32 → Int32 → Ob → Option (Int32 × Ob)) (v1 : Int32) (v2 : Int32) (v3 : Int32) (v4 : Int32) (x : Ob) : Option (Int32 × Ob) :=
  ix v3 64 (fun j119 =>
  px_let (ob_a x 14 j119 v4) (fun x_119 =>
  px_let (v3 + (1) : Int32) (fun b120 =>
  fX6_best_J123 (k29) v1 v2 b120 v4 x_119)))
def fX6_best_L64 (k29 : Int32 → Int32 → Int32 → Int32 → Ob → Option (Int32 × Ob)) : Nat → Int32 → Int32 → Int32 → Int32 → Int32 → Ob → Option (Int32 × Ob)
  | 0, _, _, _, _, _, _ => none
  | n + 1, v1, v2, v3, v4, v5, x =>
  ix v1 8 (fun j75 =>
  (if (((100) * v1) + (x.2 12 j75)) ≤ v5 then
    fX6_best_J112 (k29) v1 v2 v3 v4 x
  else
    ix v3 64 (fun j86 =>
    ix v5 800 (fun j93 =>
    (if (x.2 13 j93) = v4 then
      fX6_best_J104 (fX6_best_L64 k29 n) v1 v2 v3 v4 v5 v3 ((x.2 19 j86)) (1) x
    else
      fX6_best_J104 (fX6_best_L64 k29 n) v1 v2 v3 v4 v5 v3 ((x.2 19 j86)) (0) x)))))
def fX6_best_J192 (k157 : Int32 → Int32 → Int32 → Ob → Option (Int32 × Ob)) (v2 : Int32) (v3 : Int32) (v4 : Int32) (x : Ob) : Option (Int32 × Ob) :=
  px_let (v4 + (1) : Int32) (fun b192 =>
  k157 v2 v3 b192 x)
def fX6_best_L166 (k157 : Int32 → Int32 → Int32 → Ob → Option (Int32 × Ob)) : Nat → Int32 → Int32 → Int32 → Int32 → Ob → Option (Int32 × Ob)
  | 0, _, _, _, _, _ => none
  | n + 1, v2, v3, v4, v5, x =>
  (if v3 < (v5 + v4) then
    fX6_best_J192 (k157) v2 v3 v4 x
  else
    Option.bind (fX6_bestOf v5 (v5 + v4) x) (fun q183 =>
    px_let (v5 + (1) : Int32) (fun b186 =>
    fX6_best_L166 k157 n v2 v3 v4 b186 q183)))
def fX6_best_J198 (v2 : Int32) (v3 : Int32) (x : Ob) : Option (Int32 × Ob) :=
  (if v2 = 0 then
    ix v3 4290 (fun j207 =>
    some ((x.2 20 j207), x))
  else
    (if v3 = 0 then
      some ((-1), x)
    else
      ix v3 4290 (fun j228 =>
      ix (x.2 21 j228) 64 (fun j229 =>
      some ((x.2 14 j229), x)))))
def fX6_best_L157 : Nat → Int32 → Int32 → Int32 → Ob → Option (Int32 × Ob)
  | 0, _, _, _, _ => none
  | n + 1, v2, v3, v4, x =>
  (if v3 < v4 then
    fX6_best_J198 v2 v3 x
  else
    fX6_best_L166 (fX6_best_L157 n) FU v2 v3 v4 (0) x)
def fX6_best_J154 (v2 : Int32) (v3 : Int32) (x : Ob) : Option (Int32 × Ob) :=
  fX6_best_L157 FU v2 v3 (1) x
def fX6_best_L132 : Nat → Int32 → Int32 → Int32 → Ob → Option (Int32 × Ob)
  | 0, _, _, _, _ => none
  | n + 1, v2, v3, v4, x =>
  (if (4290) ≤ v4 then
    fX6_best_J154 v2 v3 x
  else
    ix v4 4290 (fun j147 =>
    px_let (ob_a x 20 j147 (0)) (fun x_147 =>
    px_let (v4 + (1) : Int32) (fun b148 =>
    fX6_best_L132 n v2 v3 b148 x_147))))
def fX6_best_J129 (v2 : Int32) (v3 : Int32) (x : Ob) : Option (Int32 × Ob) :=
  fX6_best_L132 FU v2 v3 (0) x
def fX6_best_L29 : Nat → Int32 → Int32 → Int32 → Int32 → Ob → Option (Int32 × Ob)
  | 0, _, _, _, _, _ => none
  | n + 1, v1, v2, v3, v4, x =>
  (if (64) ≤ v4 then
    fX6_best_J129 v2 v3 x
  else
    ix (((64) * v1) + v4) 512 (fun j47 =>
    (if (x.2 7 j47) = 0 then
      fX6_best_J123 (fX6_best_L29 n) v1 v2 v3 v4 x
    else
      ix v3 64 (fun j57 =>
      px_let (ob_a x 19 j57 (0)) (fun x_57 =>
      px_let (((100) * v1) : Int32) (fun b62 =>
      fX6_best_L64 (fX6_best_L29 n) FU v1 v2 v3 v4 b62 x_57))))))
def fX6_best (p1 : Int32) (p2 : Int32) (x : Ob) : Option (Int32 × Ob) :=
  px_let (ob_i x 0 (0)) (fun x_2 =>
  Option.bind (fX6_isTree p1 x_2) (fun q7 =>
  (if q7 = 0 then
    some ((-1), x_2)
  else
    (if p2 < 0 then
      some ((-1), x_2)
    else
      (if p2 ≤ (1) then
        fX6_best_L29 FU p1 p2 (0) (0) x_2
      else
        some ((-1), x_2))))))
abbrev rmX6_best : Room := { frames := 1, cells := 0, slots := 0, locals := 26 }
set_option maxHeartbeats 4000000 in
set_option maxRecDepth 100000 in
theorem ok_X6_best {l : Launch} {E : En} {o : Nat} {ad : (Nat → Nat)} {p1 : Int32} {p2 : Int32} {x : Ob} {r : Int32 × Ob} (hf : fX6_best p1 p2 x = some r) : CI l yX6_best wsX6_best (rmX6_best) [.ref o, .int p1, .int p2] E (w6 E o ad x) (w6 E o ad r.2) (r.1) := by
  refine xc_I (by decide) rfl (Nat.le_of_ble_eq_true rfl) [(0, .ref o), (1, .int p1), (2, .int p2)] rfl (fun p e s m below meth c A C hr => ?_)
  generalize ([.ref o, .int p1, .int p2] : List Value).toArray = args at C ⊢
  obtain ⟨Z, hZ⟩ : ∃ Z, Z = ZI E (w6 E o ad r.2) (r.1) A below args s 0 0 := ⟨_, rfl⟩
  rw [← hZ]
  have in6 : ∀ w ∈ wsX60, w ∈ wsX6_best := by decide +kernel
  have m25 : Cond.fieldLink RX6 25 "TurningTreesModel" "isIn" "[Z" ∈ wsX6_best := by decide +kernel
  have m41 : Cond.fieldLink RX6 41 "TurningTreesModel" "asks" "[I" ∈ wsX6_best := by decide +kernel
  have m44 : Cond.fieldLink RX6 44 "TurningTreesModel" "row" "[I" ∈ wsX6_best := by decide +kernel
  have m47 : Cond.fieldLink RX6 47 "TurningTreesModel" "sorted" "[I" ∈ wsX6_best := by decide +kernel
  have m53 : Cond.fieldLink RX6 53 "TurningTreesModel" "often" "[I" ∈ wsX6_best := by decide +kernel
  have m56 : Cond.fieldLink RX6 56 "TurningTreesModel" "least" "[I" ∈ wsX6_best := by decide +kernel
  have m59 : Cond.fieldLink RX6 59 "TurningTreesModel" "best" "[I" ∈ wsX6_best := by decide +kernel
  have m77 : Cond.fieldLink RX6 77 "TurningTreesModel" "thrown" "I" ∈ wsX6_best := by decide +kernel
  have hJ104 : ∀ (k64 : Int32 → Int32 → Int32 → Int32 → Int32 → Ob → Option (Int32 × Ob)), (∀ (v1 : Int32), ∀ (v2 : Int32), ∀ (v3 : Int32), ∀ (v4 : Int32), ∀ (v5 : Int32), ∀ (x : Ob), k64 v1 v2 v3 v4 v5 x = some r → XW E p l e rmX6_best s m args below meth c Z A 0 0 (w6 E o ad x) 64 6 [(0, .ref o), (1, .int v1), (2, .int v2), (3, .int v3), (4, .int v4), (5, .int v5)] []) → ∀ (v1 : Int32), ∀ (v2 : Int32), ∀ (v3 : Int32), ∀ (v4 : Int32), ∀ (v5 : Int32), ∀ (s0 : Int32), ∀ (s1 : Int32), ∀ (s2 : Int32), ∀ (x : Ob), fX6_best_J104 k64 v1 v2 v3 v4 v5 s0 s1 s2 x = some r → XW E p l e rmX6_best s m args below meth c Z A 0 0 (w6 E o ad x) 104 6 [(0, .ref o), (1, .int v1), (2, .int v2), (3, .int v3), (4, .int v4), (5, .int v5)] [.int s2, .int s1, .int s0, .ref (ad 19)] := by
    intro k64 hk64 v1 v2 v3 v4 v5 s0 s1 s2 x h
    rw [fX6_best_J104] at h
    refine xw_iadd C dX6_best_104 ?_
    obtain ⟨g105, h⟩ := px_x h
    refine px_n h (fun x_105 ex_105 h => ?_)
    refine xw_iast (w' := w6 E o ad x_105) C 15 rfl g105 (by rw [ex_105]; rfl) dX6_best_105 ?_
    refine px_n h (fun b106 eb106 h => ?_)
    refine xw_iinc (v := b106) C dX6_best_106 5 rfl eb106 (by decide) (lv' := [(5, .int b106), (0, .ref o), (1, .int v1), (2, .int v2), (3, .int v3), (4, .int v4)]) rfl ?_
    refine xw_goto C 64 dX6_best_109 (by decide) ?_
    refine xw_perm [1, 2, 3, 4, 5, 0] rfl ?_
    exact hk64 _ _ _ _ _ _ h
  have hJ123 : ∀ (k29 : Int32 → Int32 → Int32 → Int32 → Ob → Option (Int32 × Ob)), (∀ (v1 : Int32), ∀ (v2 : Int32), ∀ (v3 : Int32), ∀ (v4 : Int32), ∀ (x : Ob), k29 v1 v2 v3 v4 x = some r → XW E p l e rmX6_best s m args below meth c Z A 0 0 (w6 E o ad x) 29 6 [(0, .ref o), (1, .int v1), (2, .int v2), (3, .int v3), (4, .int v4)] []) → ∀ (v1 : Int32), ∀ (v2 : Int32), ∀ (v3 : Int32), ∀ (v4 : Int32), ∀ (x : Ob), fX6_best_J123 k29 v1 v2 v3 v4 x = some r → XW E p l e rmX6_best s m args below meth c Z A 0 0 (w6 E o ad x) 123 6 [(0, .ref o), (1, .int v1), (2, .int v2), (3, .int v3), (4, .int v4)] [] := by
    intro k29 hk29 v1 v2 v3 v4 x h
    rw [fX6_best_J123] at h
    refine px_n h (fun b123 eb123 h => ?_)
    refine xw_iinc (v := b123) C dX6_best_123 4 rfl eb123 (by decide) (lv' := [(4, .int b123), (0, .ref o), (1, .int v1), (2, .int v2), (3, .int v3)]) rfl ?_
    refine xw_goto C 29 dX6_best_126 (by decide) ?_
    refine xw_perm [1, 2, 3, 4, 0] rfl ?_
    exact hk29 _ _ _ _ _ h
  have hJ112 : ∀ (k29 : Int32 → Int32 → Int32 → Int32 → Ob → Option (Int32 × Ob)), (∀ (v1 : Int32), ∀ (v2 : Int32), ∀ (v3 : Int32), ∀ (v4 : Int32), ∀ (x : Ob), k29 v1 v2 v3 v4 x = some r → XW E p l e rmX6_best s m args below meth c Z A 0 0 (w6 E o ad x) 29 6 [(0, .ref o), (1, .int v1), (2, .int v2), (3, .int v3), (4, .int v4)] []) → ∀ (v1 : Int32), ∀ (v2 : Int32), ∀ (v3 : Int32), ∀ (v4 : Int32), ∀ (x : Ob), fX6_best_J112 k29 v1 v2 v3 v4 x = some r → XW E p l e rmX6_best s m args below meth c Z A 0 0 (w6 E o ad x) 112 6 [(0, .ref o), (1, .int v1), (2, .int v2), (3, .int v3), (4, .int v4)] [] := by
    intro k29 hk29 v1 v2 v3 v4 x h
    rw [fX6_best_J112] at h
    refine xw_aload_n C dX6_best_112 rfl 0 rfl ?_
    refine xw_get C in6 0 rfl rfl 14 (by decide) m47 rfl rfl dX6_best_113 ?_
    refine xw_iload_n C dX6_best_116 rfl 3 rfl ?_
    refine xw_iload C dX6_best_117 4 rfl ?_
    obtain ⟨g119, h⟩ := px_x h
    refine px_n h (fun x_119 ex_119 h => ?_)
    refine xw_iast (w' := w6 E o ad x_119) C 13 rfl g119 (by rw [ex_119]; rfl) dX6_best_119 ?_
    refine px_n h (fun b120 eb120 h => ?_)
    refine xw_iinc (v := b120) C dX6_best_120 3 rfl eb120 (by decide) (lv' := [(3, .int b120), (0, .ref o), (1, .int v1), (2, .int v2), (4, .int v4)]) rfl ?_
    refine xw_perm [1, 2, 3, 0, 4] rfl ?_
    exact hJ123 _ hk29 _ _ _ _ _ h
  have hL64 : ∀ (k29 : Int32 → Int32 → Int32 → Int32 → Ob → Option (Int32 × Ob)), (∀ (v1 : Int32), ∀ (v2 : Int32), ∀ (v3 : Int32), ∀ (v4 : Int32), ∀ (x : Ob), k29 v1 v2 v3 v4 x = some r → XW E p l e rmX6_best s m args below meth c Z A 0 0 (w6 E o ad x) 29 6 [(0, .ref o), (1, .int v1), (2, .int v2), (3, .int v3), (4, .int v4)] []) → ∀ n : Nat, ∀ (v1 : Int32), ∀ (v2 : Int32), ∀ (v3 : Int32), ∀ (v4 : Int32), ∀ (v5 : Int32), ∀ (x : Ob), fX6_best_L64 k29 n v1 v2 v3 v4 v5 x = some r → XW E p l e rmX6_best s m args below meth c Z A 0 0 (w6 E o ad x) 64 6 [(0, .ref o), (1, .int v1), (2, .int v2), (3, .int v3), (4, .int v4), (5, .int v5)] [] := by
    intro k29 hk29 n
    induction n with
    | zero =>
      intro v1 v2 v3 v4 v5 x h
      rw [fX6_best_L64] at h
      cases h
    | succ n ih =>
      intro v1 v2 v3 v4 v5 x h
      rw [fX6_best_L64] at h
      refine xw_iload C dX6_best_64 5 rfl ?_
      refine xw_bipush C (100) dX6_best_66 (by decide) ?_
      refine xw_iload_n C dX6_best_68 rfl 1 rfl ?_
      refine xw_imul C dX6_best_69 ?_
      refine xw_aload_n C dX6_best_70 rfl 0 rfl ?_
      refine xw_get C in6 0 rfl rfl 12 (by decide) m41 rfl rfl dX6_best_71 ?_
      refine xw_iload_n C dX6_best_74 rfl 1 rfl ?_
      obtain ⟨g75, h⟩ := px_x h
      refine xw_iald C 11 rfl g75 dX6_best_75 ?_
      refine xw_iadd C dX6_best_76 ?_
      refine xw_icmp_ge C 112 dX6_best_77 (by decide) (fun c77 => ?_) (fun c77 => ?_)
      · have h := px_t c77 h
        refine xw_perm [0, 1, 2, 3, 4] rfl ?_
        exact hJ112 _ hk29 _ _ _ _ _ h
      · have h := px_f c77 h
        refine xw_aload_n C dX6_best_80 rfl 0 rfl ?_
        refine xw_get C in6 0 rfl rfl 19 (by decide) m53 rfl rfl dX6_best_81 ?_
        refine xw_iload_n C dX6_best_84 rfl 3 rfl ?_
        refine xw_dup2 C dX6_best_85 rfl rfl ?_
        obtain ⟨g86, h⟩ := px_x h
        refine xw_iald C 15 rfl g86 dX6_best_86 ?_
        refine xw_aload_n C dX6_best_87 rfl 0 rfl ?_
        refine xw_get C in6 0 rfl rfl 13 (by decide) m44 rfl rfl dX6_best_88 ?_
        refine xw_iload C dX6_best_91 5 rfl ?_
        obtain ⟨g93, h⟩ := px_x h
        refine xw_iald C 12 rfl g93 dX6_best_93 ?_
        refine xw_iload C dX6_best_94 4 rfl ?_
        refine xw_icmp_ne C 103 dX6_best_96 (by decide) (fun c96 => ?_) (fun c96 => ?_)
        · have h := px_f c96 h
          refine xw_iconst C (0) dX6_best_103 (by decide) ?_
          exact hJ104 _ ih _ _ _ _ _ _ _ _ _ h
        · have h := px_t c96 h
          refine xw_iconst C (1) dX6_best_99 (by decide) ?_
          refine xw_goto C 104 dX6_best_100 (by decide) ?_
          exact hJ104 _ ih _ _ _ _ _ _ _ _ _ h
  have hJ192 : ∀ (k157 : Int32 → Int32 → Int32 → Ob → Option (Int32 × Ob)), (∀ (v2 : Int32), ∀ (v3 : Int32), ∀ (v4 : Int32), ∀ (x : Ob), k157 v2 v3 v4 x = some r → XW E p l e rmX6_best s m args below meth c Z A 0 0 (w6 E o ad x) 157 6 [(0, .ref o), (2, .int v2), (3, .int v3), (4, .int v4)] []) → ∀ (v2 : Int32), ∀ (v3 : Int32), ∀ (v4 : Int32), ∀ (x : Ob), fX6_best_J192 k157 v2 v3 v4 x = some r → XW E p l e rmX6_best s m args below meth c Z A 0 0 (w6 E o ad x) 192 6 [(0, .ref o), (2, .int v2), (3, .int v3), (4, .int v4)] [] := by
    intro k157 hk157 v2 v3 v4 x h
    rw [fX6_best_J192] at h
    refine px_n h (fun b192 eb192 h => ?_)
    refine xw_iinc (v := b192) C dX6_best_192 3 rfl eb192 (by decide) (lv' := [(4, .int b192), (0, .ref o), (2, .int v2), (3, .int v3)]) rfl ?_
    refine xw_goto C 157 dX6_best_195 (by decide) ?_
    refine xw_perm [1, 2, 3, 0] rfl ?_
    exact hk157 _ _ _ _ h
  have hL166 : ∀ (k157 : Int32 → Int32 → Int32 → Ob → Option (Int32 × Ob)), (∀ (v2 : Int32), ∀ (v3 : Int32), ∀ (v4 : Int32), ∀ (x : Ob), k157 v2 v3 v4 x = some r → XW E p l e rmX6_best s m args below meth c Z A 0 0 (w6 E o ad x) 157 6 [(0, .ref o), (2, .int v2), (3, .int v3), (4, .int v4)] []) → ∀ n : Nat, ∀ (v2 : Int32), ∀ (v3 : Int32), ∀ (v4 : Int32), ∀ (v5 : Int32), ∀ (x : Ob), fX6_best_L166 k157 n v2 v3 v4 v5 x = some r → XW E p l e rmX6_best s m args below meth c Z A 0 0 (w6 E o ad x) 166 6 [(0, .ref o), (2, .int v2), (3, .int v3), (4, .int v4), (5, .int v5)] [] := by
    intro k157 hk157 n
    induction n with
    | zero =>
      intro v2 v3 v4 v5 x h
      rw [fX6_best_L166] at h
      cases h
    | succ n ih =>
      intro v2 v3 v4 v5 x h
      rw [fX6_best_L166] at h
      refine xw_iload C dX6_best_166 4 rfl ?_
      refine xw_iload C dX6_best_168 3 rfl ?_
      refine xw_iadd C dX6_best_170 ?_
      refine xw_iload_n C dX6_best_171 rfl 2 rfl ?_
      refine xw_icmp_gt C 192 dX6_best_172 (by decide) (fun c172 => ?_) (fun c172 => ?_)
      · have h := px_t c172 h
        refine xw_perm [0, 1, 2, 3] rfl ?_
        exact hJ192 _ hk157 _ _ _ _ h
      · have h := px_f c172 h
        refine xw_aload_n C dX6_best_175 rfl 0 rfl ?_
        refine xw_iload C dX6_best_176 4 rfl ?_
        refine xw_iload C dX6_best_178 4 rfl ?_
        refine xw_iload C dX6_best_180 3 rfl ?_
        refine xw_iadd C dX6_best_182 ?_
        obtain ⟨q183, eq183, h⟩ := px_b h
        refine xw_callVV (w' := w6 E o ad q183) (u := []) (v := []) C (ok_X6_bestOf (o := o) (ad := ad) (x := x) eq183) 2 gX6_best_X6_bestOf rfl ⟨rfl, rfl⟩ (by decide +kernel) ⟨Nat.le_of_ble_eq_true rfl, Nat.le_of_ble_eq_true rfl⟩ 0 6 rfl rfl rfl (Nat.le_of_ble_eq_true rfl) ⟨Nat.zero_le _, Nat.zero_le _⟩ rfl xe0 xe0.symm dX6_best_183 ?_
        refine px_n h (fun b186 eb186 h => ?_)
        refine xw_iinc (v := b186) C dX6_best_186 4 rfl eb186 (by decide) (lv' := [(5, .int b186), (0, .ref o), (2, .int v2), (3, .int v3), (4, .int v4)]) rfl ?_
        refine xw_goto C 166 dX6_best_189 (by decide) ?_
        refine xw_perm [1, 2, 3, 4, 0] rfl ?_
        exact ih _ _ _ _ _ h
  have hJ198 : ∀ (v2 : Int32), ∀ (v3 : Int32), ∀ (x : Ob), fX6_best_J198 v2 v3 x = some r → XW E p l e rmX6_best s m args below meth c Z A 0 0 (w6 E o ad x) 198 6 [(0, .ref o), (2, .int v2), (3, .int v3)] [] := by
    intro v2 v3 x h
    rw [fX6_best_J198] at h
    refine xw_iload_n C dX6_best_198 rfl 1 rfl ?_
    refine xw_if_ne C 211 dX6_best_199 (by decide) (fun c199 => ?_) (fun c199 => ?_)
    · have h := px_f c199 h
      refine xw_iload_n C dX6_best_211 rfl 2 rfl ?_
      refine xw_if_ne C 219 dX6_best_212 (by decide) (fun c212 => ?_) (fun c212 => ?_)
      · have h := px_f c212 h
        refine xw_aload_n C dX6_best_219 rfl 0 rfl ?_
        refine xw_get C in6 0 rfl rfl 14 (by decide) m47 rfl rfl dX6_best_220 ?_
        refine xw_aload_n C dX6_best_223 rfl 0 rfl ?_
        refine xw_get C in6 0 rfl rfl 21 (by decide) m59 rfl rfl dX6_best_224 ?_
        refine xw_iload_n C dX6_best_227 rfl 2 rfl ?_
        obtain ⟨g228, h⟩ := px_x h
        refine xw_iald C 17 rfl g228 dX6_best_228 ?_
        obtain ⟨g229, h⟩ := px_x h
        refine xw_iald C 13 rfl g229 dX6_best_229 ?_
        cases h
        rw [hZ]
        exact xw_iret C hr dX6_best_230
      · have h := px_t c212 h
        refine xw_iconst C (-1) dX6_best_215 (by decide) ?_
        refine xw_goto C 230 dX6_best_216 (by decide) ?_
        cases h
        rw [hZ]
        exact xw_iret C hr dX6_best_230
    · have h := px_t c199 h
      refine xw_aload_n C dX6_best_202 rfl 0 rfl ?_
      refine xw_get C in6 0 rfl rfl 20 (by decide) m56 rfl rfl dX6_best_203 ?_
      refine xw_iload_n C dX6_best_206 rfl 2 rfl ?_
      obtain ⟨g207, h⟩ := px_x h
      refine xw_iald C 16 rfl g207 dX6_best_207 ?_
      refine xw_goto C 230 dX6_best_208 (by decide) ?_
      cases h
      rw [hZ]
      exact xw_iret C hr dX6_best_230
  have hL157 : ∀ n : Nat, ∀ (v2 : Int32), ∀ (v3 : Int32), ∀ (v4 : Int32), ∀ (x : Ob), fX6_best_L157 n v2 v3 v4 x = some r → XW E p l e rmX6_best s m args below meth c Z A 0 0 (w6 E o ad x) 157 6 [(0, .ref o), (2, .int v2), (3, .int v3), (4, .int v4)] [] := by
    intro n
    induction n with
    | zero =>
      intro v2 v3 v4 x h
      rw [fX6_best_L157] at h
      cases h
    | succ n ih =>
      intro v2 v3 v4 x h
      rw [fX6_best_L157] at h
      refine xw_iload C dX6_best_157 3 rfl ?_
      refine xw_iload_n C dX6_best_159 rfl 2 rfl ?_
      refine xw_icmp_gt C 198 dX6_best_160 (by decide) (fun c160 => ?_) (fun c160 => ?_)
      · have h := px_t c160 h
        refine xw_perm [0, 1, 2] rfl ?_
        exact hJ198 _ _ _ h
      · have h := px_f c160 h
        refine xw_iconst C (0) dX6_best_163 (by decide) ?_
        refine xw_istore C dX6_best_164 (by decide) (lv' := [(5, .int (0)), (0, .ref o), (2, .int v2), (3, .int v3), (4, .int v4)]) rfl ?_
        refine xw_perm [1, 2, 3, 4, 0] rfl ?_
        exact hL166 _ ih _ _ _ _ _ _ h
  have hJ154 : ∀ (v2 : Int32), ∀ (v3 : Int32), ∀ (x : Ob), fX6_best_J154 v2 v3 x = some r → XW E p l e rmX6_best s m args below meth c Z A 0 0 (w6 E o ad x) 154 6 [(0, .ref o), (2, .int v2), (3, .int v3)] [] := by
    intro v2 v3 x h
    rw [fX6_best_J154] at h
    refine xw_iconst C (1) dX6_best_154 (by decide) ?_
    refine xw_istore C dX6_best_155 (by decide) (lv' := [(4, .int (1)), (0, .ref o), (2, .int v2), (3, .int v3)]) rfl ?_
    refine xw_perm [1, 2, 3, 0] rfl ?_
    exact hL157 _ _ _ _ _ h
  have hL132 : ∀ n : Nat, ∀ (v2 : Int32), ∀ (v3 : Int32), ∀ (v4 : Int32), ∀ (x : Ob), fX6_best_L132 n v2 v3 v4 x = some r → XW E p l e rmX6_best s m args below meth c Z A 0 0 (w6 E o ad x) 132 6 [(0, .ref o), (2, .int v2), (3, .int v3), (4, .int v4)] [] := by
    intro n
    induction n with
    | zero =>
      intro v2 v3 v4 x h
      rw [fX6_best_L132] at h
      cases h
    | succ n ih =>
      intro v2 v3 v4 x h
      rw [fX6_best_L132] at h
      refine xw_iload C dX6_best_132 3 rfl ?_
      refine xw_sipush C (4290) dX6_best_134 (by decide) ?_
      refine xw_icmp_ge C 154 dX6_best_137 (by decide) (fun c137 => ?_) (fun c137 => ?_)
      · have h := px_t c137 h
        refine xw_perm [0, 1, 2] rfl ?_
        exact hJ154 _ _ _ h
      · have h := px_f c137 h
        refine xw_aload_n C dX6_best_140 rfl 0 rfl ?_
        refine xw_get C in6 0 rfl rfl 20 (by decide) m56 rfl rfl dX6_best_141 ?_
        refine xw_iload C dX6_best_144 3 rfl ?_
        refine xw_iconst C (0) dX6_best_146 (by decide) ?_
        obtain ⟨g147, h⟩ := px_x h
        refine px_n h (fun x_147 ex_147 h => ?_)
        refine xw_iast (w' := w6 E o ad x_147) C 16 rfl g147 (by rw [ex_147]; rfl) dX6_best_147 ?_
        refine px_n h (fun b148 eb148 h => ?_)
        refine xw_iinc (v := b148) C dX6_best_148 3 rfl eb148 (by decide) (lv' := [(4, .int b148), (0, .ref o), (2, .int v2), (3, .int v3)]) rfl ?_
        refine xw_goto C 132 dX6_best_151 (by decide) ?_
        refine xw_perm [1, 2, 3, 0] rfl ?_
        exact ih _ _ _ _ h
  have hJ129 : ∀ (v2 : Int32), ∀ (v3 : Int32), ∀ (x : Ob), fX6_best_J129 v2 v3 x = some r → XW E p l e rmX6_best s m args below meth c Z A 0 0 (w6 E o ad x) 129 6 [(0, .ref o), (2, .int v2), (3, .int v3)] [] := by
    intro v2 v3 x h
    rw [fX6_best_J129] at h
    refine xw_iconst C (0) dX6_best_129 (by decide) ?_
    refine xw_istore C dX6_best_130 (by decide) (lv' := [(4, .int (0)), (0, .ref o), (2, .int v2), (3, .int v3)]) rfl ?_
    refine xw_perm [1, 2, 3, 0] rfl ?_
    exact hL132 _ _ _ _ _ h
  have hL29 : ∀ n : Nat, ∀ (v1 : Int32), ∀ (v2 : Int32), ∀ (v3 : Int32), ∀ (v4 : Int32), ∀ (x : Ob), fX6_best_L29 n v1 v2 v3 v4 x = some r → XW E p l e rmX6_best s m args below meth c Z A 0 0 (w6 E o ad x) 29 6 [(0, .ref o), (1, .int v1), (2, .int v2), (3, .int v3), (4, .int v4)] [] := by
    intro n
    induction n with
    | zero =>
      intro v1 v2 v3 v4 x h
      rw [fX6_best_L29] at h
      cases h
    | succ n ih =>
      intro v1 v2 v3 v4 x h
      rw [fX6_best_L29] at h
      refine xw_iload C dX6_best_29 4 rfl ?_
      refine xw_bipush C (64) dX6_best_31 (by decide) ?_
      refine xw_icmp_ge C 129 dX6_best_33 (by decide) (fun c33 => ?_) (fun c33 => ?_)
      · have h := px_t c33 h
        refine xw_perm [0, 2, 3] rfl ?_
        exact hJ129 _ _ _ h
      · have h := px_f c33 h
        refine xw_aload_n C dX6_best_36 rfl 0 rfl ?_
        refine xw_get C in6 0 rfl rfl 7 (by decide) m25 rfl rfl dX6_best_37 ?_
        refine xw_bipush C (64) dX6_best_40 (by decide) ?_
        refine xw_iload_n C dX6_best_42 rfl 1 rfl ?_
        refine xw_imul C dX6_best_43 ?_
        refine xw_iload C dX6_best_44 4 rfl ?_
        refine xw_iadd C dX6_best_46 ?_
        obtain ⟨g47, h⟩ := px_x h
        refine xw_zald C 6 rfl g47 dX6_best_47 ?_
        refine xw_if_eq C 123 dX6_best_48 (by decide) (fun c48 => ?_) (fun c48 => ?_)
        · have h := px_t c48 h
          exact hJ123 _ ih _ _ _ _ _ h
        · have h := px_f c48 h
          refine xw_aload_n C dX6_best_51 rfl 0 rfl ?_
          refine xw_get C in6 0 rfl rfl 19 (by decide) m53 rfl rfl dX6_best_52 ?_
          refine xw_iload_n C dX6_best_55 rfl 3 rfl ?_
          refine xw_iconst C (0) dX6_best_56 (by decide) ?_
          obtain ⟨g57, h⟩ := px_x h
          refine px_n h (fun x_57 ex_57 h => ?_)
          refine xw_iast (w' := w6 E o ad x_57) C 15 rfl g57 (by rw [ex_57]; rfl) dX6_best_57 ?_
          refine xw_bipush C (100) dX6_best_58 (by decide) ?_
          refine xw_iload_n C dX6_best_60 rfl 1 rfl ?_
          refine xw_imul C dX6_best_61 ?_
          refine xw_topi (fun b62 eb62 => ?_)
          have h := px_v h b62 eb62
          refine xw_istore C dX6_best_62 (by decide) (lv' := [(5, .int b62), (0, .ref o), (1, .int v1), (2, .int v2), (3, .int v3), (4, .int v4)]) rfl ?_
          refine xw_perm [1, 2, 3, 4, 5, 0] rfl ?_
          exact hL64 _ ih _ _ _ _ _ _ _ h
  rw [fX6_best] at hf
  have h := hf
  refine xw_aload_n C dX6_best_0 rfl 0 rfl ?_
  refine xw_iconst C (0) dX6_best_1 (by decide) ?_
  refine px_n h (fun x_2 ex_2 h => ?_)
  refine xw_put (w' := w6 E o ad x_2) C in6 tyX6 tyX6_ok nmX6 0 rfl rfl 0 (by decide) m77 rfl rfl rfl (Nat.le_of_ble_eq_true rfl) (by rw [ex_2]; rfl) dX6_best_2 ?_
  refine xw_aload_n C dX6_best_5 rfl 0 rfl ?_
  refine xw_iload_n C dX6_best_6 rfl 1 rfl ?_
  obtain ⟨q7, eq7, h⟩ := px_b h
  refine xw_callVI (w' := w6 E o ad x_2) (u := []) (v := []) C (ok_X6_isTree (o := o) (ad := ad) (x := x_2) eq7) 1 gX6_best_X6_isTree rfl ⟨rfl, rfl⟩ (by decide +kernel) ⟨Nat.le_of_ble_eq_true rfl, Nat.le_of_ble_eq_true rfl⟩ 0 6 rfl rfl rfl (Nat.le_of_ble_eq_true rfl) ⟨Nat.zero_le _, Nat.zero_le _⟩ rfl xe0 xe0.symm dX6_best_7 ?_
  refine xw_if_eq C 22 dX6_best_10 (by decide) (fun c10 => ?_) (fun c10 => ?_)
  · have h := px_t c10 h
    refine xw_iconst C (-1) dX6_best_22 (by decide) ?_
    cases h
    rw [hZ]
    exact xw_iret C hr dX6_best_23
  · have h := px_f c10 h
    refine xw_iload_n C dX6_best_13 rfl 2 rfl ?_
    refine xw_if_lt C 22 dX6_best_14 (by decide) (fun c14 => ?_) (fun c14 => ?_)
    · have h := px_t c14 h
      refine xw_iconst C (-1) dX6_best_22 (by decide) ?_
      cases h
      rw [hZ]
      exact xw_iret C hr dX6_best_23
    · have h := px_f c14 h
      refine xw_iload_n C dX6_best_17 rfl 2 rfl ?_
      refine xw_iconst C (1) dX6_best_18 (by decide) ?_
      refine xw_icmp_le C 24 dX6_best_19 (by decide) (fun c19 => ?_) (fun c19 => ?_)
      · have h := px_t c19 h
        refine xw_iconst C (0) dX6_best_24 (by decide) ?_
        refine xw_istore_n C dX6_best_25 rfl (by decide) (lv' := [(3, .int (0)), (0, .ref o), (1, .int p1), (2, .int p2)]) rfl ?_
        refine xw_iconst C (0) dX6_best_26 (by decide) ?_
        refine xw_istore C dX6_best_27 (by decide) (lv' := [(4, .int (0)), (3, .int (0)), (0, .ref o), (1, .int p1), (2, .int p2)]) rfl ?_
        refine xw_perm [2, 3, 4, 1, 0] rfl ?_
        exact hL29 _ _ _ _ _ _ h
      · have h := px_f c19 h
        refine xw_iconst C (-1) dX6_best_22 (by decide) ?_
        cases h
        rw [hZ]
        exact xw_iret C hr dX6_best_23
def fX6_interleave_J133 (k44 : Int32 → Int32 → Int32 → Int32 → Int32 → Int32 → Ob → Option (Int32 × Ob)) (v1 : Int32) (v2 : Int32) (v3 : Int32) (v4 : Int32) (v5 : Int32) (v6 : Int32) (x : Ob) : Option (Int32 × Ob) :=
  px_let (v6 + (1) : Int32) (fun b133 =>
  k44 v1 v2 v3 v4 v5 b133 x)
def fX6_interleave_J127 (k44 : Int32 → Int32 → Int32 → Int32 → Int32 → Int32 → Ob → Option (Int32 × Ob)) (v1 : Int32) (v3 : Int32) (v4 : Int32) (v6 : Int32) (v7 : Int32) (s0 : Int32) (s1 : Int32) (x : Ob) : Option (Int32 × Ob) :=
  px_let ((s0 + s1) : Int32) (fun b128 =>
  fX6_interleave_J133 (k44) v1 b128 v3 v4 v7 v6 x)
def fX6_interleave_J126 (k44 : Int32 → Int32 → Int32 → Int32 → Int32 → Int32 → Ob → Option (Int32 × Ob)) (v1 : Int32) (v3 : Int32) (v4 : Int32) (v6 : Int32) (v7 : Int32) (s0 : Int32) (x : Ob) : Option (Int32 × Ob) :=
  fX6_interleave_J127 (k44) v1 v3 v4 v6 v7 s0 (0) x
def fX6_interleave_J107 (k44 : Int32 → Int32 → Int32 → Int32 → Int32 → Int32 → Ob → Option (Int32 × Ob)) (v1 : Int32) (v2 : Int32) (v3 : Int32) (v4 : Int32) (v5 : Int32) (v6 : Int32) (s0 : Int32) (x : Ob) : Option (Int32 × Ob) :=
  (if v5 < 0 then
    fX6_interleave_J126 (k44) v1 v3 v4 v6 s0 v2 x
  else
    (if v5 = s0 then
      fX6_interleave_J126 (k44) v1 v3 v4 v6 s0 v2 x
    else
      fX6_interleave_J127 (k44) v1 v3 v4 v6 s0 v2 (1) x))
def fX6_interleave_J139 (k28 : Int32 → Int32 → Int32 → Int32 → Ob → Option (Int32 × Ob)) (v1 : Int32) (v2 : Int32) (v3 : Int32) (v4 : Int32) (x : Ob) : Option (Int32 × Ob) :=
  px_let ((v4 + v3) : Int32) (fun b143 =>
  k28 v1 v2 v3 b143 x)
def fX6_interleave_L44 (k28 : Int32 → Int32 → Int32 → Int32 → Ob → Option (Int32 × Ob)) : Nat → Int32 → Int32 → Int32 → Int32 → Int32 → Int32 → Ob → Option (Int32 × Ob)
  | 0, _, _, _, _, _, _, _ => none
  | n + 1, v1, v2, v3, v4, v5, v6, x =>
  ix v1 8 (fun j55 =>
  (if (((100) * v1) + (x.2 12 j55)) ≤ v6 then
    fX6_interleave_J139 (k28) v1 v2 v3 v4 x
  else
    ix v6 800 (fun j66 =>
    (if (x.2 13 j66) < v4 then
      fX6_interleave_J133 (fX6_interleave_L44 k28 n) v1 v2 v3 v4 v5 v6 x
    else
      ix v6 800 (fun j78 =>
      (if (v4 + v3) ≤ (x.2 13 j78) then
        fX6_interleave_J133 (fX6_interleave_L44 k28 n) v1 v2 v3 v4 v5 v6 x
      else
        ix v6 800 (fun j92 =>
        (if (v4 + (v3 / (2))) ≤ (x.2 13 j92) then
          fX6_interleave_J107 (fX6_interleave_L44 k28 n) v1 v2 v3 v4 v5 v6 (1) x
        else
          fX6_interleave_J107 (fX6_interleave_L44 k28 n) v1 v2 v3 v4 v5 v6 (0) x))))))))
def fX6_interleave_J148 (k19 : Int32 → Int32 → Int32 → Ob → Option (Int32 × Ob)) (v1 : Int32) (v2 : Int32) (v3 : Int32) (x : Ob) : Option (Int32 × Ob) :=
  px_let (((2) * v3) : Int32) (fun b151 =>
  k19 v1 v2 b151 x)
def fX6_interleave_L28 (k19 : Int32 → Int32 → Int32 → Ob → Option (Int32 × Ob)) : Nat → Int32 → Int32 → Int32 → Int32 → Ob → Option (Int32 × Ob)
  | 0, _, _, _, _, _ => none
  | n + 1, v1, v2, v3, v4, x =>
  (if (64) ≤ v4 then
    fX6_interleave_J148 (k19) v1 v2 v3 x
  else
    px_let (((100) * v1) : Int32) (fun b42 =>
    fX6_interleave_L44 (fX6_interleave_L28 k19 n) FU v1 v2 v3 v4 (-1) b42 x))
def fX6_interleave_L19 : Nat → Int32 → Int32 → Int32 → Ob → Option (Int32 × Ob)
  | 0, _, _, _, _ => none
  | n + 1, v1, v2, v3, x =>
  (if (64) < v3 then
    some (v2, x)
  else
    fX6_interleave_L28 (fX6_interleave_L19 n) FU v1 v2 v3 (0) x)
def fX6_interleave (p1 : Int32) (x : Ob) : Option (Int32 × Ob) :=
  px_let (ob_i x 0 (0)) (fun x_2 =>
  Option.bind (fX6_isTree p1 x_2) (fun q7 =>
  (if q7 = 0 then
    some ((-1), x_2)
  else
    fX6_interleave_L19 FU p1 (0) (2) x_2)))
abbrev rmX6_interleave : Room := { frames := 1, cells := 0, slots := 0, locals := 21 }
set_option maxHeartbeats 4000000 in
set_option maxRecDepth 100000 in
theorem ok_X6_interleave {l : Launch} {E : En} {o : Nat} {ad : (Nat → Nat)} {p1 : Int32} {x : Ob} {r : Int32 × Ob} (hf : fX6_interleave p1 x = some r) : CI l yX6_interleave wsX6_interleave (rmX6_interleave) [.ref o, .int p1] E (w6 E o ad x) (w6 E o ad r.2) (r.1) := by
  refine xc_I (by decide) rfl (Nat.le_of_ble_eq_true rfl) [(0, .ref o), (1, .int p1)] rfl (fun p e s m below meth c A C hr => ?_)
  generalize ([.ref o, .int p1] : List Value).toArray = args at C ⊢
  obtain ⟨Z, hZ⟩ : ∃ Z, Z = ZI E (w6 E o ad r.2) (r.1) A below args s 0 0 := ⟨_, rfl⟩
  rw [← hZ]
  have in6 : ∀ w ∈ wsX60, w ∈ wsX6_interleave := by decide +kernel
  have m41 : Cond.fieldLink RX6 41 "TurningTreesModel" "asks" "[I" ∈ wsX6_interleave := by decide +kernel
  have m44 : Cond.fieldLink RX6 44 "TurningTreesModel" "row" "[I" ∈ wsX6_interleave := by decide +kernel
  have m77 : Cond.fieldLink RX6 77 "TurningTreesModel" "thrown" "I" ∈ wsX6_interleave := by decide +kernel
  have hJ133 : ∀ (k44 : Int32 → Int32 → Int32 → Int32 → Int32 → Int32 → Ob → Option (Int32 × Ob)), (∀ (v1 : Int32), ∀ (v2 : Int32), ∀ (v3 : Int32), ∀ (v4 : Int32), ∀ (v5 : Int32), ∀ (v6 : Int32), ∀ (x : Ob), k44 v1 v2 v3 v4 v5 v6 x = some r → XW E p l e rmX6_interleave s m args below meth c Z A 0 0 (w6 E o ad x) 44 8 [(0, .ref o), (1, .int v1), (2, .int v2), (3, .int v3), (4, .int v4), (5, .int v5), (6, .int v6)] []) → ∀ (v1 : Int32), ∀ (v2 : Int32), ∀ (v3 : Int32), ∀ (v4 : Int32), ∀ (v5 : Int32), ∀ (v6 : Int32), ∀ (x : Ob), fX6_interleave_J133 k44 v1 v2 v3 v4 v5 v6 x = some r → XW E p l e rmX6_interleave s m args below meth c Z A 0 0 (w6 E o ad x) 133 8 [(0, .ref o), (1, .int v1), (2, .int v2), (3, .int v3), (4, .int v4), (5, .int v5), (6, .int v6)] [] := by
    intro k44 hk44 v1 v2 v3 v4 v5 v6 x h
    rw [fX6_interleave_J133] at h
    refine px_n h (fun b133 eb133 h => ?_)
    refine xw_iinc (v := b133) C dX6_interleave_133 6 rfl eb133 (by decide) (lv' := [(6, .int b133), (0, .ref o), (1, .int v1), (2, .int v2), (3, .int v3), (4, .int v4), (5, .int v5)]) rfl ?_
    refine xw_goto C 44 dX6_interleave_136 (by decide) ?_
    refine xw_perm [1, 2, 3, 4, 5, 6, 0] rfl ?_
    exact hk44 _ _ _ _ _ _ _ h
  have hJ127 : ∀ (k44 : Int32 → Int32 → Int32 → Int32 → Int32 → Int32 → Ob → Option (Int32 × Ob)), (∀ (v1 : Int32), ∀ (v2 : Int32), ∀ (v3 : Int32), ∀ (v4 : Int32), ∀ (v5 : Int32), ∀ (v6 : Int32), ∀ (x : Ob), k44 v1 v2 v3 v4 v5 v6 x = some r → XW E p l e rmX6_interleave s m args below meth c Z A 0 0 (w6 E o ad x) 44 8 [(0, .ref o), (1, .int v1), (2, .int v2), (3, .int v3), (4, .int v4), (5, .int v5), (6, .int v6)] []) → ∀ (v1 : Int32), ∀ (v3 : Int32), ∀ (v4 : Int32), ∀ (v6 : Int32), ∀ (v7 : Int32), ∀ (s0 : Int32), ∀ (s1 : Int32), ∀ (x : Ob), fX6_interleave_J127 k44 v1 v3 v4 v6 v7 s0 s1 x = some r → XW E p l e rmX6_interleave s m args below meth c Z A 0 0 (w6 E o ad x) 127 8 [(0, .ref o), (1, .int v1), (3, .int v3), (4, .int v4), (6, .int v6), (7, .int v7)] [.int s1, .int s0] := by
    intro k44 hk44 v1 v3 v4 v6 v7 s0 s1 x h
    rw [fX6_interleave_J127] at h
    refine xw_iadd C dX6_interleave_127 ?_
    refine xw_topi (fun b128 eb128 => ?_)
    have h := px_v h b128 eb128
    refine xw_istore_n C dX6_interleave_128 rfl (by decide) (lv' := [(2, .int b128), (0, .ref o), (1, .int v1), (3, .int v3), (4, .int v4), (6, .int v6), (7, .int v7)]) rfl ?_
    refine xw_iload C dX6_interleave_129 6 rfl ?_
    refine xw_istore C dX6_interleave_131 (by decide) (lv' := [(5, .int v7), (2, .int b128), (0, .ref o), (1, .int v1), (3, .int v3), (4, .int v4), (6, .int v6), (7, .int v7)]) rfl ?_
    refine xw_perm [2, 3, 1, 4, 5, 0, 6] rfl ?_
    exact hJ133 _ hk44 _ _ _ _ _ _ _ h
  have hJ126 : ∀ (k44 : Int32 → Int32 → Int32 → Int32 → Int32 → Int32 → Ob → Option (Int32 × Ob)), (∀ (v1 : Int32), ∀ (v2 : Int32), ∀ (v3 : Int32), ∀ (v4 : Int32), ∀ (v5 : Int32), ∀ (v6 : Int32), ∀ (x : Ob), k44 v1 v2 v3 v4 v5 v6 x = some r → XW E p l e rmX6_interleave s m args below meth c Z A 0 0 (w6 E o ad x) 44 8 [(0, .ref o), (1, .int v1), (2, .int v2), (3, .int v3), (4, .int v4), (5, .int v5), (6, .int v6)] []) → ∀ (v1 : Int32), ∀ (v3 : Int32), ∀ (v4 : Int32), ∀ (v6 : Int32), ∀ (v7 : Int32), ∀ (s0 : Int32), ∀ (x : Ob), fX6_interleave_J126 k44 v1 v3 v4 v6 v7 s0 x = some r → XW E p l e rmX6_interleave s m args below meth c Z A 0 0 (w6 E o ad x) 126 8 [(0, .ref o), (1, .int v1), (3, .int v3), (4, .int v4), (6, .int v6), (7, .int v7)] [.int s0] := by
    intro k44 hk44 v1 v3 v4 v6 v7 s0 x h
    rw [fX6_interleave_J126] at h
    refine xw_iconst C (0) dX6_interleave_126 (by decide) ?_
    exact hJ127 _ hk44 _ _ _ _ _ _ _ _ h
  have hJ107 : ∀ (k44 : Int32 → Int32 → Int32 → Int32 → Int32 → Int32 → Ob → Option (Int32 × Ob)), (∀ (v1 : Int32), ∀ (v2 : Int32), ∀ (v3 : Int32), ∀ (v4 : Int32), ∀ (v5 : Int32), ∀ (v6 : Int32), ∀ (x : Ob), k44 v1 v2 v3 v4 v5 v6 x = some r → XW E p l e rmX6_interleave s m args below meth c Z A 0 0 (w6 E o ad x) 44 8 [(0, .ref o), (1, .int v1), (2, .int v2), (3, .int v3), (4, .int v4), (5, .int v5), (6, .int v6)] []) → ∀ (v1 : Int32), ∀ (v2 : Int32), ∀ (v3 : Int32), ∀ (v4 : Int32), ∀ (v5 : Int32), ∀ (v6 : Int32), ∀ (s0 : Int32), ∀ (x : Ob), fX6_interleave_J107 k44 v1 v2 v3 v4 v5 v6 s0 x = some r → XW E p l e rmX6_interleave s m args below meth c Z A 0 0 (w6 E o ad x) 107 8 [(0, .ref o), (1, .int v1), (2, .int v2), (3, .int v3), (4, .int v4), (5, .int v5), (6, .int v6)] [.int s0] := by
    intro k44 hk44 v1 v2 v3 v4 v5 v6 s0 x h
    rw [fX6_interleave_J107] at h
    refine xw_istore C dX6_interleave_107 (by decide) (lv' := [(7, .int s0), (0, .ref o), (1, .int v1), (2, .int v2), (3, .int v3), (4, .int v4), (5, .int v5), (6, .int v6)]) rfl ?_
    refine xw_iload_n C dX6_interleave_109 rfl 3 rfl ?_
    refine xw_iload C dX6_interleave_110 6 rfl ?_
    refine xw_if_lt C 126 dX6_interleave_112 (by decide) (fun c112 => ?_) (fun c112 => ?_)
    · have h := px_t c112 h
      refine xw_perm [1, 2, 4, 5, 7, 0] rfl ?_
      exact hJ126 _ hk44 _ _ _ _ _ _ _ h
    · have h := px_f c112 h
      refine xw_iload C dX6_interleave_115 6 rfl ?_
      refine xw_iload C dX6_interleave_117 0 rfl ?_
      refine xw_icmp_eq C 126 dX6_interleave_119 (by decide) (fun c119 => ?_) (fun c119 => ?_)
      · have h := px_t c119 h
        refine xw_perm [1, 2, 4, 5, 7, 0] rfl ?_
        exact hJ126 _ hk44 _ _ _ _ _ _ _ h
      · have h := px_f c119 h
        refine xw_iconst C (1) dX6_interleave_122 (by decide) ?_
        refine xw_goto C 127 dX6_interleave_123 (by decide) ?_
        refine xw_perm [1, 2, 4, 5, 7, 0] rfl ?_
        exact hJ127 _ hk44 _ _ _ _ _ _ _ _ h
  have hJ139 : ∀ (k28 : Int32 → Int32 → Int32 → Int32 → Ob → Option (Int32 × Ob)), (∀ (v1 : Int32), ∀ (v2 : Int32), ∀ (v3 : Int32), ∀ (v4 : Int32), ∀ (x : Ob), k28 v1 v2 v3 v4 x = some r → XW E p l e rmX6_interleave s m args below meth c Z A 0 0 (w6 E o ad x) 28 8 [(0, .ref o), (1, .int v1), (2, .int v2), (3, .int v3), (4, .int v4)] []) → ∀ (v1 : Int32), ∀ (v2 : Int32), ∀ (v3 : Int32), ∀ (v4 : Int32), ∀ (x : Ob), fX6_interleave_J139 k28 v1 v2 v3 v4 x = some r → XW E p l e rmX6_interleave s m args below meth c Z A 0 0 (w6 E o ad x) 139 8 [(0, .ref o), (1, .int v1), (2, .int v2), (3, .int v3), (4, .int v4)] [] := by
    intro k28 hk28 v1 v2 v3 v4 x h
    rw [fX6_interleave_J139] at h
    refine xw_iload C dX6_interleave_139 4 rfl ?_
    refine xw_iload_n C dX6_interleave_141 rfl 3 rfl ?_
    refine xw_iadd C dX6_interleave_142 ?_
    refine xw_topi (fun b143 eb143 => ?_)
    have h := px_v h b143 eb143
    refine xw_istore C dX6_interleave_143 (by decide) (lv' := [(4, .int b143), (0, .ref o), (1, .int v1), (2, .int v2), (3, .int v3)]) rfl ?_
    refine xw_goto C 28 dX6_interleave_145 (by decide) ?_
    refine xw_perm [1, 2, 3, 4, 0] rfl ?_
    exact hk28 _ _ _ _ _ h
  have hL44 : ∀ (k28 : Int32 → Int32 → Int32 → Int32 → Ob → Option (Int32 × Ob)), (∀ (v1 : Int32), ∀ (v2 : Int32), ∀ (v3 : Int32), ∀ (v4 : Int32), ∀ (x : Ob), k28 v1 v2 v3 v4 x = some r → XW E p l e rmX6_interleave s m args below meth c Z A 0 0 (w6 E o ad x) 28 8 [(0, .ref o), (1, .int v1), (2, .int v2), (3, .int v3), (4, .int v4)] []) → ∀ n : Nat, ∀ (v1 : Int32), ∀ (v2 : Int32), ∀ (v3 : Int32), ∀ (v4 : Int32), ∀ (v5 : Int32), ∀ (v6 : Int32), ∀ (x : Ob), fX6_interleave_L44 k28 n v1 v2 v3 v4 v5 v6 x = some r → XW E p l e rmX6_interleave s m args below meth c Z A 0 0 (w6 E o ad x) 44 8 [(0, .ref o), (1, .int v1), (2, .int v2), (3, .int v3), (4, .int v4), (5, .int v5), (6, .int v6)] [] := by
    intro k28 hk28 n
    induction n with
    | zero =>
      intro v1 v2 v3 v4 v5 v6 x h
      rw [fX6_interleave_L44] at h
      cases h
    | succ n ih =>
      intro v1 v2 v3 v4 v5 v6 x h
      rw [fX6_interleave_L44] at h
      refine xw_iload C dX6_interleave_44 6 rfl ?_
      refine xw_bipush C (100) dX6_interleave_46 (by decide) ?_
      refine xw_iload_n C dX6_interleave_48 rfl 1 rfl ?_
      refine xw_imul C dX6_interleave_49 ?_
      refine xw_aload_n C dX6_interleave_50 rfl 0 rfl ?_
      refine xw_get C in6 0 rfl rfl 12 (by decide) m41 rfl rfl dX6_interleave_51 ?_
      refine xw_iload_n C dX6_interleave_54 rfl 1 rfl ?_
      obtain ⟨g55, h⟩ := px_x h
      refine xw_iald C 11 rfl g55 dX6_interleave_55 ?_
      refine xw_iadd C dX6_interleave_56 ?_
      refine xw_icmp_ge C 139 dX6_interleave_57 (by decide) (fun c57 => ?_) (fun c57 => ?_)
      · have h := px_t c57 h
        refine xw_perm [0, 1, 2, 3, 4] rfl ?_
        exact hJ139 _ hk28 _ _ _ _ _ h
      · have h := px_f c57 h
        refine xw_aload_n C dX6_interleave_60 rfl 0 rfl ?_
        refine xw_get C in6 0 rfl rfl 13 (by decide) m44 rfl rfl dX6_interleave_61 ?_
        refine xw_iload C dX6_interleave_64 6 rfl ?_
        obtain ⟨g66, h⟩ := px_x h
        refine xw_iald C 12 rfl g66 dX6_interleave_66 ?_
        refine xw_iload C dX6_interleave_67 4 rfl ?_
        refine xw_icmp_lt C 133 dX6_interleave_69 (by decide) (fun c69 => ?_) (fun c69 => ?_)
        · have h := px_t c69 h
          exact hJ133 _ ih _ _ _ _ _ _ _ h
        · have h := px_f c69 h
          refine xw_aload_n C dX6_interleave_72 rfl 0 rfl ?_
          refine xw_get C in6 0 rfl rfl 13 (by decide) m44 rfl rfl dX6_interleave_73 ?_
          refine xw_iload C dX6_interleave_76 6 rfl ?_
          obtain ⟨g78, h⟩ := px_x h
          refine xw_iald C 12 rfl g78 dX6_interleave_78 ?_
          refine xw_iload C dX6_interleave_79 4 rfl ?_
          refine xw_iload_n C dX6_interleave_81 rfl 3 rfl ?_
          refine xw_iadd C dX6_interleave_82 ?_
          refine xw_icmp_ge C 133 dX6_interleave_83 (by decide) (fun c83 => ?_) (fun c83 => ?_)
          · have h := px_t c83 h
            exact hJ133 _ ih _ _ _ _ _ _ _ h
          · have h := px_f c83 h
            refine xw_aload_n C dX6_interleave_86 rfl 0 rfl ?_
            refine xw_get C in6 0 rfl rfl 13 (by decide) m44 rfl rfl dX6_interleave_87 ?_
            refine xw_iload C dX6_interleave_90 6 rfl ?_
            obtain ⟨g92, h⟩ := px_x h
            refine xw_iald C 12 rfl g92 dX6_interleave_92 ?_
            refine xw_iload C dX6_interleave_93 4 rfl ?_
            refine xw_iload_n C dX6_interleave_95 rfl 3 rfl ?_
            refine xw_iconst C (2) dX6_interleave_96 (by decide) ?_
            refine xw_idiv C dX6_interleave_97 (by decide) ?_
            refine xw_iadd C dX6_interleave_98 ?_
            refine xw_icmp_ge C 106 dX6_interleave_99 (by decide) (fun c99 => ?_) (fun c99 => ?_)
            · have h := px_t c99 h
              refine xw_iconst C (1) dX6_interleave_106 (by decide) ?_
              exact hJ107 _ ih _ _ _ _ _ _ _ _ h
            · have h := px_f c99 h
              refine xw_iconst C (0) dX6_interleave_102 (by decide) ?_
              refine xw_goto C 107 dX6_interleave_103 (by decide) ?_
              exact hJ107 _ ih _ _ _ _ _ _ _ _ h
  have hJ148 : ∀ (k19 : Int32 → Int32 → Int32 → Ob → Option (Int32 × Ob)), (∀ (v1 : Int32), ∀ (v2 : Int32), ∀ (v3 : Int32), ∀ (x : Ob), k19 v1 v2 v3 x = some r → XW E p l e rmX6_interleave s m args below meth c Z A 0 0 (w6 E o ad x) 19 8 [(0, .ref o), (1, .int v1), (2, .int v2), (3, .int v3)] []) → ∀ (v1 : Int32), ∀ (v2 : Int32), ∀ (v3 : Int32), ∀ (x : Ob), fX6_interleave_J148 k19 v1 v2 v3 x = some r → XW E p l e rmX6_interleave s m args below meth c Z A 0 0 (w6 E o ad x) 148 8 [(0, .ref o), (1, .int v1), (2, .int v2), (3, .int v3)] [] := by
    intro k19 hk19 v1 v2 v3 x h
    rw [fX6_interleave_J148] at h
    refine xw_iconst C (2) dX6_interleave_148 (by decide) ?_
    refine xw_iload_n C dX6_interleave_149 rfl 3 rfl ?_
    refine xw_imul C dX6_interleave_150 ?_
    refine xw_topi (fun b151 eb151 => ?_)
    have h := px_v h b151 eb151
    refine xw_istore_n C dX6_interleave_151 rfl (by decide) (lv' := [(3, .int b151), (0, .ref o), (1, .int v1), (2, .int v2)]) rfl ?_
    refine xw_goto C 19 dX6_interleave_152 (by decide) ?_
    refine xw_perm [1, 2, 3, 0] rfl ?_
    exact hk19 _ _ _ _ h
  have hL28 : ∀ (k19 : Int32 → Int32 → Int32 → Ob → Option (Int32 × Ob)), (∀ (v1 : Int32), ∀ (v2 : Int32), ∀ (v3 : Int32), ∀ (x : Ob), k19 v1 v2 v3 x = some r → XW E p l e rmX6_interleave s m args below meth c Z A 0 0 (w6 E o ad x) 19 8 [(0, .ref o), (1, .int v1), (2, .int v2), (3, .int v3)] []) → ∀ n : Nat, ∀ (v1 : Int32), ∀ (v2 : Int32), ∀ (v3 : Int32), ∀ (v4 : Int32), ∀ (x : Ob), fX6_interleave_L28 k19 n v1 v2 v3 v4 x = some r → XW E p l e rmX6_interleave s m args below meth c Z A 0 0 (w6 E o ad x) 28 8 [(0, .ref o), (1, .int v1), (2, .int v2), (3, .int v3), (4, .int v4)] [] := by
    intro k19 hk19 n
    induction n with
    | zero =>
      intro v1 v2 v3 v4 x h
      rw [fX6_interleave_L28] at h
      cases h
    | succ n ih =>
      intro v1 v2 v3 v4 x h
      rw [fX6_interleave_L28] at h
      refine xw_iload C dX6_interleave_28 4 rfl ?_
      refine xw_bipush C (64) dX6_interleave_30 (by decide) ?_
      refine xw_icmp_ge C 148 dX6_interleave_32 (by decide) (fun c32 => ?_) (fun c32 => ?_)
      · have h := px_t c32 h
        refine xw_perm [0, 1, 2, 3] rfl ?_
        exact hJ148 _ hk19 _ _ _ _ h
      · have h := px_f c32 h
        refine xw_iconst C (-1) dX6_interleave_35 (by decide) ?_
        refine xw_istore C dX6_interleave_36 (by decide) (lv' := [(5, .int (-1)), (0, .ref o), (1, .int v1), (2, .int v2), (3, .int v3), (4, .int v4)]) rfl ?_
        refine xw_bipush C (100) dX6_interleave_38 (by decide) ?_
        refine xw_iload_n C dX6_interleave_40 rfl 2 rfl ?_
        refine xw_imul C dX6_interleave_41 ?_
        refine xw_topi (fun b42 eb42 => ?_)
        have h := px_v h b42 eb42
        refine xw_istore C dX6_interleave_42 (by decide) (lv' := [(6, .int b42), (5, .int (-1)), (0, .ref o), (1, .int v1), (2, .int v2), (3, .int v3), (4, .int v4)]) rfl ?_
        refine xw_perm [2, 3, 4, 5, 6, 1, 0] rfl ?_
        exact hL44 _ ih _ _ _ _ _ _ _ _ h
  have hL19 : ∀ n : Nat, ∀ (v1 : Int32), ∀ (v2 : Int32), ∀ (v3 : Int32), ∀ (x : Ob), fX6_interleave_L19 n v1 v2 v3 x = some r → XW E p l e rmX6_interleave s m args below meth c Z A 0 0 (w6 E o ad x) 19 8 [(0, .ref o), (1, .int v1), (2, .int v2), (3, .int v3)] [] := by
    intro n
    induction n with
    | zero =>
      intro v1 v2 v3 x h
      rw [fX6_interleave_L19] at h
      cases h
    | succ n ih =>
      intro v1 v2 v3 x h
      rw [fX6_interleave_L19] at h
      refine xw_iload_n C dX6_interleave_19 rfl 3 rfl ?_
      refine xw_bipush C (64) dX6_interleave_20 (by decide) ?_
      refine xw_icmp_gt C 155 dX6_interleave_22 (by decide) (fun c22 => ?_) (fun c22 => ?_)
      · have h := px_t c22 h
        refine xw_iload_n C dX6_interleave_155 rfl 2 rfl ?_
        cases h
        rw [hZ]
        exact xw_iret C hr dX6_interleave_156
      · have h := px_f c22 h
        refine xw_iconst C (0) dX6_interleave_25 (by decide) ?_
        refine xw_istore C dX6_interleave_26 (by decide) (lv' := [(4, .int (0)), (0, .ref o), (1, .int v1), (2, .int v2), (3, .int v3)]) rfl ?_
        refine xw_perm [1, 2, 3, 4, 0] rfl ?_
        exact hL28 _ ih _ _ _ _ _ _ h
  rw [fX6_interleave] at hf
  have h := hf
  refine xw_aload_n C dX6_interleave_0 rfl 0 rfl ?_
  refine xw_iconst C (0) dX6_interleave_1 (by decide) ?_
  refine px_n h (fun x_2 ex_2 h => ?_)
  refine xw_put (w' := w6 E o ad x_2) C in6 tyX6 tyX6_ok nmX6 0 rfl rfl 0 (by decide) m77 rfl rfl rfl (Nat.le_of_ble_eq_true rfl) (by rw [ex_2]; rfl) dX6_interleave_2 ?_
  refine xw_aload_n C dX6_interleave_5 rfl 0 rfl ?_
  refine xw_iload_n C dX6_interleave_6 rfl 1 rfl ?_
  obtain ⟨q7, eq7, h⟩ := px_b h
  refine xw_callVI (w' := w6 E o ad x_2) (u := []) (v := []) C (ok_X6_isTree (o := o) (ad := ad) (x := x_2) eq7) 1 gX6_interleave_X6_isTree rfl ⟨rfl, rfl⟩ (by decide +kernel) ⟨Nat.le_of_ble_eq_true rfl, Nat.le_of_ble_eq_true rfl⟩ 0 6 rfl rfl rfl (Nat.le_of_ble_eq_true rfl) ⟨Nat.zero_le _, Nat.zero_le _⟩ rfl xe0 xe0.symm dX6_interleave_7 ?_
  refine xw_if_ne C 15 dX6_interleave_10 (by decide) (fun c10 => ?_) (fun c10 => ?_)
  · have h := px_f c10 h
    refine xw_iconst C (0) dX6_interleave_15 (by decide) ?_
    refine xw_istore_n C dX6_interleave_16 rfl (by decide) (lv' := [(2, .int (0)), (0, .ref o), (1, .int p1)]) rfl ?_
    refine xw_iconst C (2) dX6_interleave_17 (by decide) ?_
    refine xw_istore_n C dX6_interleave_18 rfl (by decide) (lv' := [(3, .int (2)), (2, .int (0)), (0, .ref o), (1, .int p1)]) rfl ?_
    refine xw_perm [2, 3, 1, 0] rfl ?_
    exact hL19 _ _ _ _ _ h
  · have h := px_t c10 h
    refine xw_iconst C (-1) dX6_interleave_13 (by decide) ?_
    cases h
    rw [hZ]
    exact xw_iret C hr dX6_interleave_14
def fX6_touches_J59 (k15 : Int32 → Int32 → Int32 → Int32 → Ob → Option (Int32 × Ob)) (v2 : Int32) (v3 : Int32) (v4 : Int32) (v5 : Int32) (x : Ob) : Option (Int32 × Ob) :=
  px_let ((v5 + v2) : Int32) (fun b63 =>
  k15 v2 v3 v4 b63 x)
def fX6_touches_L15 : Nat → Int32 → Int32 → Int32 → Int32 → Ob → Option (Int32 × Ob)
  | 0, _, _, _, _, _ => none
  | n + 1, v2, v3, v4, v5, x =>
  (if v5 < 0 then
    some (v3, x)
  else
    (if (64) ≤ v5 then
      some (v3, x)
    else
      ix v5 64 (fun j33 =>
      (if (x.2 22 j33) ≤ v4 then
        fX6_touches_J59 (fX6_touches_L15 n) v2 v3 v4 v5 x
      else
        ix v5 64 (fun j45 =>
        px_let ((x.2 22 j45) : Int32) (fun b46 =>
        ix v5 64 (fun j55 =>
        px_let (ob_a x 23 j55 (vp_nar .boolean (1))) (fun x_55 =>
        px_let (v3 + (1) : Int32) (fun b56 =>
        fX6_touches_J59 (fX6_touches_L15 n) v2 b56 b46 v5 x_55)))))))))
def fX6_touches (p1 : Int32) (p2 : Int32) (x : Ob) : Option (Int32 × Ob) :=
  ix p1 64 (fun j7 =>
  px_let ((x.2 22 j7) : Int32) (fun b8 =>
  px_let ((p1 + p2) : Int32) (fun b13 =>
  fX6_touches_L15 FU p2 (0) b8 b13 x)))
abbrev rmX6_touches : Room := { frames := 0, cells := 0, slots := 0, locals := 0 }
set_option maxHeartbeats 4000000 in
set_option maxRecDepth 100000 in
theorem ok_X6_touches {l : Launch} {E : En} {o : Nat} {ad : (Nat → Nat)} {p1 : Int32} {p2 : Int32} {x : Ob} {r : Int32 × Ob} (hf : fX6_touches p1 p2 x = some r) : CI l yX6_touches wsX6_touches (rmX6_touches) [.ref o, .int p1, .int p2] E (w6 E o ad x) (w6 E o ad r.2) (r.1) := by
  refine xc_I (by decide) rfl (Nat.le_of_ble_eq_true rfl) [(0, .ref o), (1, .int p1), (2, .int p2)] rfl (fun p e s m below meth c A C hr => ?_)
  generalize ([.ref o, .int p1, .int p2] : List Value).toArray = args at C ⊢
  obtain ⟨Z, hZ⟩ : ∃ Z, Z = ZI E (w6 E o ad r.2) (r.1) A below args s 0 0 := ⟨_, rfl⟩
  rw [← hZ]
  have in6 : ∀ w ∈ wsX60, w ∈ wsX6_touches := by decide +kernel
  have m62 : Cond.fieldLink RX6 62 "TurningTreesModel" "touchedAt" "[I" ∈ wsX6_touches := by decide +kernel
  have m65 : Cond.fieldLink RX6 65 "TurningTreesModel" "isTouched" "[Z" ∈ wsX6_touches := by decide +kernel
  have hJ59 : ∀ (k15 : Int32 → Int32 → Int32 → Int32 → Ob → Option (Int32 × Ob)), (∀ (v2 : Int32), ∀ (v3 : Int32), ∀ (v4 : Int32), ∀ (v5 : Int32), ∀ (x : Ob), k15 v2 v3 v4 v5 x = some r → XW E p l e rmX6_touches s m args below meth c Z A 0 0 (w6 E o ad x) 15 6 [(0, .ref o), (2, .int v2), (3, .int v3), (4, .int v4), (5, .int v5)] []) → ∀ (v2 : Int32), ∀ (v3 : Int32), ∀ (v4 : Int32), ∀ (v5 : Int32), ∀ (x : Ob), fX6_touches_J59 k15 v2 v3 v4 v5 x = some r → XW E p l e rmX6_touches s m args below meth c Z A 0 0 (w6 E o ad x) 59 6 [(0, .ref o), (2, .int v2), (3, .int v3), (4, .int v4), (5, .int v5)] [] := by
    intro k15 hk15 v2 v3 v4 v5 x h
    rw [fX6_touches_J59] at h
    refine xw_iload C dX6_touches_59 4 rfl ?_
    refine xw_iload_n C dX6_touches_61 rfl 1 rfl ?_
    refine xw_iadd C dX6_touches_62 ?_
    refine xw_topi (fun b63 eb63 => ?_)
    have h := px_v h b63 eb63
    refine xw_istore C dX6_touches_63 (by decide) (lv' := [(5, .int b63), (0, .ref o), (2, .int v2), (3, .int v3), (4, .int v4)]) rfl ?_
    refine xw_goto C 15 dX6_touches_65 (by decide) ?_
    refine xw_perm [1, 2, 3, 4, 0] rfl ?_
    exact hk15 _ _ _ _ _ h
  have hL15 : ∀ n : Nat, ∀ (v2 : Int32), ∀ (v3 : Int32), ∀ (v4 : Int32), ∀ (v5 : Int32), ∀ (x : Ob), fX6_touches_L15 n v2 v3 v4 v5 x = some r → XW E p l e rmX6_touches s m args below meth c Z A 0 0 (w6 E o ad x) 15 6 [(0, .ref o), (2, .int v2), (3, .int v3), (4, .int v4), (5, .int v5)] [] := by
    intro n
    induction n with
    | zero =>
      intro v2 v3 v4 v5 x h
      rw [fX6_touches_L15] at h
      cases h
    | succ n ih =>
      intro v2 v3 v4 v5 x h
      rw [fX6_touches_L15] at h
      refine xw_iload C dX6_touches_15 4 rfl ?_
      refine xw_if_lt C 68 dX6_touches_17 (by decide) (fun c17 => ?_) (fun c17 => ?_)
      · have h := px_t c17 h
        refine xw_iload_n C dX6_touches_68 rfl 2 rfl ?_
        cases h
        rw [hZ]
        exact xw_iret C hr dX6_touches_69
      · have h := px_f c17 h
        refine xw_iload C dX6_touches_20 4 rfl ?_
        refine xw_bipush C (64) dX6_touches_22 (by decide) ?_
        refine xw_icmp_ge C 68 dX6_touches_24 (by decide) (fun c24 => ?_) (fun c24 => ?_)
        · have h := px_t c24 h
          refine xw_iload_n C dX6_touches_68 rfl 2 rfl ?_
          cases h
          rw [hZ]
          exact xw_iret C hr dX6_touches_69
        · have h := px_f c24 h
          refine xw_aload_n C dX6_touches_27 rfl 0 rfl ?_
          refine xw_get C in6 0 rfl rfl 22 (by decide) m62 rfl rfl dX6_touches_28 ?_
          refine xw_iload C dX6_touches_31 4 rfl ?_
          obtain ⟨g33, h⟩ := px_x h
          refine xw_iald C 18 rfl g33 dX6_touches_33 ?_
          refine xw_iload C dX6_touches_34 3 rfl ?_
          refine xw_icmp_le C 59 dX6_touches_36 (by decide) (fun c36 => ?_) (fun c36 => ?_)
          · have h := px_t c36 h
            exact hJ59 _ ih _ _ _ _ _ h
          · have h := px_f c36 h
            refine xw_aload_n C dX6_touches_39 rfl 0 rfl ?_
            refine xw_get C in6 0 rfl rfl 22 (by decide) m62 rfl rfl dX6_touches_40 ?_
            refine xw_iload C dX6_touches_43 4 rfl ?_
            obtain ⟨g45, h⟩ := px_x h
            refine xw_iald C 18 rfl g45 dX6_touches_45 ?_
            refine xw_topi (fun b46 eb46 => ?_)
            have h := px_v h b46 eb46
            refine xw_istore C dX6_touches_46 (by decide) (lv' := [(4, .int b46), (0, .ref o), (2, .int v2), (3, .int v3), (5, .int v5)]) rfl ?_
            refine xw_aload_n C dX6_touches_48 rfl 1 rfl ?_
            refine xw_get C in6 0 rfl rfl 23 (by decide) m65 rfl rfl dX6_touches_49 ?_
            refine xw_iload C dX6_touches_52 4 rfl ?_
            refine xw_iconst C (1) dX6_touches_54 (by decide) ?_
            obtain ⟨g55, h⟩ := px_x h
            refine px_n h (fun x_55 ex_55 h => ?_)
            refine xw_zast (w' := w6 E o ad x_55) C 19 rfl g55 (by rw [ex_55]; rfl) dX6_touches_55 ?_
            refine px_n h (fun b56 eb56 h => ?_)
            refine xw_iinc (v := b56) C dX6_touches_56 3 rfl eb56 (by decide) (lv' := [(3, .int b56), (4, .int b46), (0, .ref o), (2, .int v2), (5, .int v5)]) rfl ?_
            refine xw_perm [2, 3, 0, 1, 4] rfl ?_
            exact hJ59 _ ih _ _ _ _ _ h
  rw [fX6_touches] at hf
  have h := hf
  refine xw_iconst C (0) dX6_touches_0 (by decide) ?_
  refine xw_istore_n C dX6_touches_1 rfl (by decide) (lv' := [(3, .int (0)), (0, .ref o), (1, .int p1), (2, .int p2)]) rfl ?_
  refine xw_aload_n C dX6_touches_2 rfl 1 rfl ?_
  refine xw_get C in6 0 rfl rfl 22 (by decide) m62 rfl rfl dX6_touches_3 ?_
  refine xw_iload_n C dX6_touches_6 rfl 2 rfl ?_
  obtain ⟨g7, h⟩ := px_x h
  refine xw_iald C 18 rfl g7 dX6_touches_7 ?_
  refine xw_topi (fun b8 eb8 => ?_)
  have h := px_v h b8 eb8
  refine xw_istore C dX6_touches_8 (by decide) (lv' := [(4, .int b8), (3, .int (0)), (0, .ref o), (1, .int p1), (2, .int p2)]) rfl ?_
  refine xw_iload_n C dX6_touches_10 rfl 3 rfl ?_
  refine xw_iload_n C dX6_touches_11 rfl 4 rfl ?_
  refine xw_iadd C dX6_touches_12 ?_
  refine xw_topi (fun b13 eb13 => ?_)
  have h := px_v h b13 eb13
  refine xw_istore C dX6_touches_13 (by decide) (lv' := [(5, .int b13), (4, .int b8), (3, .int (0)), (0, .ref o), (1, .int p1), (2, .int p2)]) rfl ?_
  refine xw_perm [3, 5, 2, 1, 0] rfl ?_
  exact hL15 _ _ _ _ _ _ h
def fX6_sweep_J91 (k66 : Int32 → Int32 → Int32 → Int32 → Int32 → Ob → Option (Int32 × Ob)) (v1 : Int32) (v2 : Int32) (v3 : Int32) (v4 : Int32) (v5 : Int32) (s0 : Int32) (s1 : Int32) (x : Ob) : Option (Int32 × Ob) :=
  ix s0 64 (fun j91 =>
  px_let (ob_a x 23 j91 (vp_nar .boolean s1)) (fun x_91 =>
  px_let (v5 + (1) : Int32) (fun b92 =>
  k66 v1 v2 v3 v4 b92 x_91)))
def fX6_sweep_J157 (k121 : Int32 → Int32 → Int32 → Int32 → Ob → Option (Int32 × Ob)) (v1 : Int32) (v2 : Int32) (v3 : Int32) (v5 : Int32) (s0 : Int32) (s1 : Int32) (x : Ob) : Option (Int32 × Ob) :=
  ix s0 64 (fun j157 =>
  px_let (ob_a x 22 j157 s1) (fun x_157 =>
  px_let (v5 + (1) : Int32) (fun b158 =>
  k121 v1 v2 v3 b158 x_157)))
def fX6_sweep_J164 (k40 : Int32 → Int32 → Int32 → Ob → Option (Int32 × Ob)) (v1 : Int32) (v2 : Int32) (v3 : Int32) (x : Ob) : Option (Int32 × Ob) :=
  px_let (v3 + (1) : Int32) (fun b164 =>
  k40 v1 v2 b164 x)
def fX6_sweep_L121 (k40 : Int32 → Int32 → Int32 → Ob → Option (Int32 × Ob)) : Nat → Int32 → Int32 → Int32 → Int32 → Ob → Option (Int32 × Ob)
  | 0, _, _, _, _, _ => none
  | n + 1, v1, v2, v3, v5, x =>
  (if (64) ≤ v5 then
    fX6_sweep_J164 (k40) v1 v2 v3 x
  else
    ix v5 64 (fun j140 =>
    (if (x.2 23 j140) = 0 then
      ix v5 64 (fun j156 =>
      fX6_sweep_J157 (fX6_sweep_L121 k40 n) v1 v2 v3 v5 v5 ((x.2 22 j156)) x)
    else
      fX6_sweep_J157 (fX6_sweep_L121 k40 n) v1 v2 v3 v5 v5 ((v3 + (1))) x)))
def fX6_sweep_J98 (k40 : Int32 → Int32 → Int32 → Ob → Option (Int32 × Ob)) (v1 : Int32) (v2 : Int32) (v3 : Int32) (v4 : Int32) (x : Ob) : Option (Int32 × Ob) :=
  Option.bind (fX6_touches v4 (-1) x) (fun q104 =>
  Option.bind (fX6_touches v4 (1) q104.2) (fun q112 =>
  px_let ((v2 + (((1) + q104.1) + q112.1)) : Int32) (fun b117 =>
  fX6_sweep_L121 (k40) FU v1 b117 v3 (0) q112.2)))
def fX6_sweep_L66 (k40 : Int32 → Int32 → Int32 → Ob → Option (Int32 × Ob)) : Nat → Int32 → Int32 → Int32 → Int32 → Int32 → Ob → Option (Int32 × Ob)
  | 0, _, _, _, _, _, _ => none
  | n + 1, v1, v2, v3, v4, v5, x =>
  (if (64) ≤ v5 then
    fX6_sweep_J98 (k40) v1 v2 v3 v4 x
  else
    (if v5 = v4 then
      fX6_sweep_J91 (fX6_sweep_L66 k40 n) v1 v2 v3 v4 v5 v5 (1) x
    else
      fX6_sweep_J91 (fX6_sweep_L66 k40 n) v1 v2 v3 v4 v5 v5 (0) x))
def fX6_sweep_L40 : Nat → Int32 → Int32 → Int32 → Ob → Option (Int32 × Ob)
  | 0, _, _, _, _ => none
  | n + 1, v1, v2, v3, x =>
  ix v1 8 (fun j46 =>
  (if (x.2 12 j46) ≤ v3 then
    some (v2, x)
  else
    ix (((100) * v1) + v3) 800 (fun j60 =>
    px_let ((x.2 13 j60) : Int32) (fun b61 =>
    fX6_sweep_L66 (fX6_sweep_L40 n) FU v1 v2 v3 b61 (0) x))))
def fX6_sweep_J36 (v1 : Int32) (x : Ob) : Option (Int32 × Ob) :=
  fX6_sweep_L40 FU v1 (0) (0) x
def fX6_sweep_L17 : Nat → Int32 → Int32 → Ob → Option (Int32 × Ob)
  | 0, _, _, _ => none
  | n + 1, v1, v2, x =>
  (if (64) ≤ v2 then
    fX6_sweep_J36 v1 x
  else
    ix v2 64 (fun j29 =>
    px_let (ob_a x 22 j29 (0)) (fun x_29 =>
    px_let (v2 + (1) : Int32) (fun b30 =>
    fX6_sweep_L17 n v1 b30 x_29))))
def fX6_sweep (p1 : Int32) (x : Ob) : Option (Int32 × Ob) :=
  px_let (ob_i x 0 (0)) (fun x_2 =>
  Option.bind (fX6_isTree p1 x_2) (fun q7 =>
  (if q7 = 0 then
    some ((-1), x_2)
  else
    fX6_sweep_L17 FU p1 (0) x_2)))
abbrev rmX6_sweep : Room := { frames := 1, cells := 0, slots := 0, locals := 25 }
set_option maxHeartbeats 4000000 in
set_option maxRecDepth 100000 in
theorem ok_X6_sweep {l : Launch} {E : En} {o : Nat} {ad : (Nat → Nat)} {p1 : Int32} {x : Ob} {r : Int32 × Ob} (hf : fX6_sweep p1 x = some r) : CI l yX6_sweep wsX6_sweep (rmX6_sweep) [.ref o, .int p1] E (w6 E o ad x) (w6 E o ad r.2) (r.1) := by
  refine xc_I (by decide) rfl (Nat.le_of_ble_eq_true rfl) [(0, .ref o), (1, .int p1)] rfl (fun p e s m below meth c A C hr => ?_)
  generalize ([.ref o, .int p1] : List Value).toArray = args at C ⊢
  obtain ⟨Z, hZ⟩ : ∃ Z, Z = ZI E (w6 E o ad r.2) (r.1) A below args s 0 0 := ⟨_, rfl⟩
  rw [← hZ]
  have in6 : ∀ w ∈ wsX60, w ∈ wsX6_sweep := by decide +kernel
  have m41 : Cond.fieldLink RX6 41 "TurningTreesModel" "asks" "[I" ∈ wsX6_sweep := by decide +kernel
  have m44 : Cond.fieldLink RX6 44 "TurningTreesModel" "row" "[I" ∈ wsX6_sweep := by decide +kernel
  have m62 : Cond.fieldLink RX6 62 "TurningTreesModel" "touchedAt" "[I" ∈ wsX6_sweep := by decide +kernel
  have m65 : Cond.fieldLink RX6 65 "TurningTreesModel" "isTouched" "[Z" ∈ wsX6_sweep := by decide +kernel
  have m77 : Cond.fieldLink RX6 77 "TurningTreesModel" "thrown" "I" ∈ wsX6_sweep := by decide +kernel
  have hJ91 : ∀ (k66 : Int32 → Int32 → Int32 → Int32 → Int32 → Ob → Option (Int32 × Ob)), (∀ (v1 : Int32), ∀ (v2 : Int32), ∀ (v3 : Int32), ∀ (v4 : Int32), ∀ (v5 : Int32), ∀ (x : Ob), k66 v1 v2 v3 v4 v5 x = some r → XW E p l e rmX6_sweep s m args below meth c Z A 0 0 (w6 E o ad x) 66 6 [(0, .ref o), (1, .int v1), (2, .int v2), (3, .int v3), (4, .int v4), (5, .int v5)] []) → ∀ (v1 : Int32), ∀ (v2 : Int32), ∀ (v3 : Int32), ∀ (v4 : Int32), ∀ (v5 : Int32), ∀ (s0 : Int32), ∀ (s1 : Int32), ∀ (x : Ob), fX6_sweep_J91 k66 v1 v2 v3 v4 v5 s0 s1 x = some r → XW E p l e rmX6_sweep s m args below meth c Z A 0 0 (w6 E o ad x) 91 6 [(0, .ref o), (1, .int v1), (2, .int v2), (3, .int v3), (4, .int v4), (5, .int v5)] [.int s1, .int s0, .ref (ad 23)] := by
    intro k66 hk66 v1 v2 v3 v4 v5 s0 s1 x h
    rw [fX6_sweep_J91] at h
    obtain ⟨g91, h⟩ := px_x h
    refine px_n h (fun x_91 ex_91 h => ?_)
    refine xw_zast (w' := w6 E o ad x_91) C 19 rfl g91 (by rw [ex_91]; rfl) dX6_sweep_91 ?_
    refine px_n h (fun b92 eb92 h => ?_)
    refine xw_iinc (v := b92) C dX6_sweep_92 5 rfl eb92 (by decide) (lv' := [(5, .int b92), (0, .ref o), (1, .int v1), (2, .int v2), (3, .int v3), (4, .int v4)]) rfl ?_
    refine xw_goto C 66 dX6_sweep_95 (by decide) ?_
    refine xw_perm [1, 2, 3, 4, 5, 0] rfl ?_
    exact hk66 _ _ _ _ _ _ h
  have hJ157 : ∀ (k121 : Int32 → Int32 → Int32 → Int32 → Ob → Option (Int32 × Ob)), (∀ (v1 : Int32), ∀ (v2 : Int32), ∀ (v3 : Int32), ∀ (v5 : Int32), ∀ (x : Ob), k121 v1 v2 v3 v5 x = some r → XW E p l e rmX6_sweep s m args below meth c Z A 0 0 (w6 E o ad x) 121 6 [(0, .ref o), (1, .int v1), (2, .int v2), (3, .int v3), (5, .int v5)] []) → ∀ (v1 : Int32), ∀ (v2 : Int32), ∀ (v3 : Int32), ∀ (v5 : Int32), ∀ (s0 : Int32), ∀ (s1 : Int32), ∀ (x : Ob), fX6_sweep_J157 k121 v1 v2 v3 v5 s0 s1 x = some r → XW E p l e rmX6_sweep s m args below meth c Z A 0 0 (w6 E o ad x) 157 6 [(0, .ref o), (1, .int v1), (2, .int v2), (3, .int v3), (5, .int v5)] [.int s1, .int s0, .ref (ad 22)] := by
    intro k121 hk121 v1 v2 v3 v5 s0 s1 x h
    rw [fX6_sweep_J157] at h
    obtain ⟨g157, h⟩ := px_x h
    refine px_n h (fun x_157 ex_157 h => ?_)
    refine xw_iast (w' := w6 E o ad x_157) C 18 rfl g157 (by rw [ex_157]; rfl) dX6_sweep_157 ?_
    refine px_n h (fun b158 eb158 h => ?_)
    refine xw_iinc (v := b158) C dX6_sweep_158 4 rfl eb158 (by decide) (lv' := [(5, .int b158), (0, .ref o), (1, .int v1), (2, .int v2), (3, .int v3)]) rfl ?_
    refine xw_goto C 121 dX6_sweep_161 (by decide) ?_
    refine xw_perm [1, 2, 3, 4, 0] rfl ?_
    exact hk121 _ _ _ _ _ h
  have hJ164 : ∀ (k40 : Int32 → Int32 → Int32 → Ob → Option (Int32 × Ob)), (∀ (v1 : Int32), ∀ (v2 : Int32), ∀ (v3 : Int32), ∀ (x : Ob), k40 v1 v2 v3 x = some r → XW E p l e rmX6_sweep s m args below meth c Z A 0 0 (w6 E o ad x) 40 6 [(0, .ref o), (1, .int v1), (2, .int v2), (3, .int v3)] []) → ∀ (v1 : Int32), ∀ (v2 : Int32), ∀ (v3 : Int32), ∀ (x : Ob), fX6_sweep_J164 k40 v1 v2 v3 x = some r → XW E p l e rmX6_sweep s m args below meth c Z A 0 0 (w6 E o ad x) 164 6 [(0, .ref o), (1, .int v1), (2, .int v2), (3, .int v3)] [] := by
    intro k40 hk40 v1 v2 v3 x h
    rw [fX6_sweep_J164] at h
    refine px_n h (fun b164 eb164 h => ?_)
    refine xw_iinc (v := b164) C dX6_sweep_164 3 rfl eb164 (by decide) (lv' := [(3, .int b164), (0, .ref o), (1, .int v1), (2, .int v2)]) rfl ?_
    refine xw_goto C 40 dX6_sweep_167 (by decide) ?_
    refine xw_perm [1, 2, 3, 0] rfl ?_
    exact hk40 _ _ _ _ h
  have hL121 : ∀ (k40 : Int32 → Int32 → Int32 → Ob → Option (Int32 × Ob)), (∀ (v1 : Int32), ∀ (v2 : Int32), ∀ (v3 : Int32), ∀ (x : Ob), k40 v1 v2 v3 x = some r → XW E p l e rmX6_sweep s m args below meth c Z A 0 0 (w6 E o ad x) 40 6 [(0, .ref o), (1, .int v1), (2, .int v2), (3, .int v3)] []) → ∀ n : Nat, ∀ (v1 : Int32), ∀ (v2 : Int32), ∀ (v3 : Int32), ∀ (v5 : Int32), ∀ (x : Ob), fX6_sweep_L121 k40 n v1 v2 v3 v5 x = some r → XW E p l e rmX6_sweep s m args below meth c Z A 0 0 (w6 E o ad x) 121 6 [(0, .ref o), (1, .int v1), (2, .int v2), (3, .int v3), (5, .int v5)] [] := by
    intro k40 hk40 n
    induction n with
    | zero =>
      intro v1 v2 v3 v5 x h
      rw [fX6_sweep_L121] at h
      cases h
    | succ n ih =>
      intro v1 v2 v3 v5 x h
      rw [fX6_sweep_L121] at h
      refine xw_iload C dX6_sweep_121 4 rfl ?_
      refine xw_bipush C (64) dX6_sweep_123 (by decide) ?_
      refine xw_icmp_ge C 164 dX6_sweep_125 (by decide) (fun c125 => ?_) (fun c125 => ?_)
      · have h := px_t c125 h
        refine xw_perm [0, 1, 2, 3] rfl ?_
        exact hJ164 _ hk40 _ _ _ _ h
      · have h := px_f c125 h
        refine xw_aload_n C dX6_sweep_128 rfl 0 rfl ?_
        refine xw_get C in6 0 rfl rfl 22 (by decide) m62 rfl rfl dX6_sweep_129 ?_
        refine xw_iload C dX6_sweep_132 4 rfl ?_
        refine xw_aload_n C dX6_sweep_134 rfl 0 rfl ?_
        refine xw_get C in6 0 rfl rfl 23 (by decide) m65 rfl rfl dX6_sweep_135 ?_
        refine xw_iload C dX6_sweep_138 4 rfl ?_
        obtain ⟨g140, h⟩ := px_x h
        refine xw_zald C 19 rfl g140 dX6_sweep_140 ?_
        refine xw_if_eq C 150 dX6_sweep_141 (by decide) (fun c141 => ?_) (fun c141 => ?_)
        · have h := px_t c141 h
          refine xw_aload_n C dX6_sweep_150 rfl 0 rfl ?_
          refine xw_get C in6 0 rfl rfl 22 (by decide) m62 rfl rfl dX6_sweep_151 ?_
          refine xw_iload C dX6_sweep_154 4 rfl ?_
          obtain ⟨g156, h⟩ := px_x h
          refine xw_iald C 18 rfl g156 dX6_sweep_156 ?_
          exact hJ157 _ ih _ _ _ _ _ _ _ h
        · have h := px_f c141 h
          refine xw_iload_n C dX6_sweep_144 rfl 3 rfl ?_
          refine xw_iconst C (1) dX6_sweep_145 (by decide) ?_
          refine xw_iadd C dX6_sweep_146 ?_
          refine xw_goto C 157 dX6_sweep_147 (by decide) ?_
          exact hJ157 _ ih _ _ _ _ _ _ _ h
  have hJ98 : ∀ (k40 : Int32 → Int32 → Int32 → Ob → Option (Int32 × Ob)), (∀ (v1 : Int32), ∀ (v2 : Int32), ∀ (v3 : Int32), ∀ (x : Ob), k40 v1 v2 v3 x = some r → XW E p l e rmX6_sweep s m args below meth c Z A 0 0 (w6 E o ad x) 40 6 [(0, .ref o), (1, .int v1), (2, .int v2), (3, .int v3)] []) → ∀ (v1 : Int32), ∀ (v2 : Int32), ∀ (v3 : Int32), ∀ (v4 : Int32), ∀ (x : Ob), fX6_sweep_J98 k40 v1 v2 v3 v4 x = some r → XW E p l e rmX6_sweep s m args below meth c Z A 0 0 (w6 E o ad x) 98 6 [(0, .ref o), (1, .int v1), (2, .int v2), (3, .int v3), (4, .int v4)] [] := by
    intro k40 hk40 v1 v2 v3 v4 x h
    rw [fX6_sweep_J98] at h
    refine xw_iload_n C dX6_sweep_98 rfl 2 rfl ?_
    refine xw_iconst C (1) dX6_sweep_99 (by decide) ?_
    refine xw_aload_n C dX6_sweep_100 rfl 0 rfl ?_
    refine xw_iload C dX6_sweep_101 4 rfl ?_
    refine xw_iconst C (-1) dX6_sweep_103 (by decide) ?_
    obtain ⟨q104, eq104, h⟩ := px_b h
    refine xw_callVI (w' := w6 E o ad q104.2) (u := []) (v := []) C (ok_X6_touches (o := o) (ad := ad) (x := x) eq104) 2 gX6_sweep_X6_touches rfl ⟨rfl, rfl⟩ (by decide +kernel) ⟨Nat.le_of_ble_eq_true rfl, Nat.le_of_ble_eq_true rfl⟩ 0 6 rfl rfl rfl (Nat.le_of_ble_eq_true rfl) ⟨Nat.zero_le _, Nat.zero_le _⟩ rfl xe0 xe0.symm dX6_sweep_104 ?_
    refine xw_iadd C dX6_sweep_107 ?_
    refine xw_aload_n C dX6_sweep_108 rfl 0 rfl ?_
    refine xw_iload C dX6_sweep_109 4 rfl ?_
    refine xw_iconst C (1) dX6_sweep_111 (by decide) ?_
    obtain ⟨q112, eq112, h⟩ := px_b h
    refine xw_callVI (w' := w6 E o ad q112.2) (u := []) (v := []) C (ok_X6_touches (o := o) (ad := ad) (x := q104.2) eq112) 2 gX6_sweep_X6_touches rfl ⟨rfl, rfl⟩ (by decide +kernel) ⟨Nat.le_of_ble_eq_true rfl, Nat.le_of_ble_eq_true rfl⟩ 0 6 rfl rfl rfl (Nat.le_of_ble_eq_true rfl) ⟨Nat.zero_le _, Nat.zero_le _⟩ rfl xe0 xe0.symm dX6_sweep_112 ?_
    refine xw_iadd C dX6_sweep_115 ?_
    refine xw_iadd C dX6_sweep_116 ?_
    refine xw_topi (fun b117 eb117 => ?_)
    have h := px_v h b117 eb117
    refine xw_istore_n C dX6_sweep_117 rfl (by decide) (lv' := [(2, .int b117), (0, .ref o), (1, .int v1), (3, .int v3), (4, .int v4)]) rfl ?_
    refine xw_iconst C (0) dX6_sweep_118 (by decide) ?_
    refine xw_istore C dX6_sweep_119 (by decide) (lv' := [(5, .int (0)), (2, .int b117), (0, .ref o), (1, .int v1), (3, .int v3), (4, .int v4)]) rfl ?_
    refine xw_perm [2, 3, 1, 4, 0] rfl ?_
    exact hL121 _ hk40 _ _ _ _ _ _ h
  have hL66 : ∀ (k40 : Int32 → Int32 → Int32 → Ob → Option (Int32 × Ob)), (∀ (v1 : Int32), ∀ (v2 : Int32), ∀ (v3 : Int32), ∀ (x : Ob), k40 v1 v2 v3 x = some r → XW E p l e rmX6_sweep s m args below meth c Z A 0 0 (w6 E o ad x) 40 6 [(0, .ref o), (1, .int v1), (2, .int v2), (3, .int v3)] []) → ∀ n : Nat, ∀ (v1 : Int32), ∀ (v2 : Int32), ∀ (v3 : Int32), ∀ (v4 : Int32), ∀ (v5 : Int32), ∀ (x : Ob), fX6_sweep_L66 k40 n v1 v2 v3 v4 v5 x = some r → XW E p l e rmX6_sweep s m args below meth c Z A 0 0 (w6 E o ad x) 66 6 [(0, .ref o), (1, .int v1), (2, .int v2), (3, .int v3), (4, .int v4), (5, .int v5)] [] := by
    intro k40 hk40 n
    induction n with
    | zero =>
      intro v1 v2 v3 v4 v5 x h
      rw [fX6_sweep_L66] at h
      cases h
    | succ n ih =>
      intro v1 v2 v3 v4 v5 x h
      rw [fX6_sweep_L66] at h
      refine xw_iload C dX6_sweep_66 5 rfl ?_
      refine xw_bipush C (64) dX6_sweep_68 (by decide) ?_
      refine xw_icmp_ge C 98 dX6_sweep_70 (by decide) (fun c70 => ?_) (fun c70 => ?_)
      · have h := px_t c70 h
        refine xw_perm [0, 1, 2, 3, 4] rfl ?_
        exact hJ98 _ hk40 _ _ _ _ _ h
      · have h := px_f c70 h
        refine xw_aload_n C dX6_sweep_73 rfl 0 rfl ?_
        refine xw_get C in6 0 rfl rfl 23 (by decide) m65 rfl rfl dX6_sweep_74 ?_
        refine xw_iload C dX6_sweep_77 5 rfl ?_
        refine xw_iload C dX6_sweep_79 5 rfl ?_
        refine xw_iload C dX6_sweep_81 4 rfl ?_
        refine xw_icmp_ne C 90 dX6_sweep_83 (by decide) (fun c83 => ?_) (fun c83 => ?_)
        · have h := px_f c83 h
          refine xw_iconst C (0) dX6_sweep_90 (by decide) ?_
          exact hJ91 _ ih _ _ _ _ _ _ _ _ h
        · have h := px_t c83 h
          refine xw_iconst C (1) dX6_sweep_86 (by decide) ?_
          refine xw_goto C 91 dX6_sweep_87 (by decide) ?_
          exact hJ91 _ ih _ _ _ _ _ _ _ _ h
  have hL40 : ∀ n : Nat, ∀ (v1 : Int32), ∀ (v2 : Int32), ∀ (v3 : Int32), ∀ (x : Ob), fX6_sweep_L40 n v1 v2 v3 x = some r → XW E p l e rmX6_sweep s m args below meth c Z A 0 0 (w6 E o ad x) 40 6 [(0, .ref o), (1, .int v1), (2, .int v2), (3, .int v3)] [] := by
    intro n
    induction n with
    | zero =>
      intro v1 v2 v3 x h
      rw [fX6_sweep_L40] at h
      cases h
    | succ n ih =>
      intro v1 v2 v3 x h
      rw [fX6_sweep_L40] at h
      refine xw_iload_n C dX6_sweep_40 rfl 3 rfl ?_
      refine xw_aload_n C dX6_sweep_41 rfl 0 rfl ?_
      refine xw_get C in6 0 rfl rfl 12 (by decide) m41 rfl rfl dX6_sweep_42 ?_
      refine xw_iload_n C dX6_sweep_45 rfl 1 rfl ?_
      obtain ⟨g46, h⟩ := px_x h
      refine xw_iald C 11 rfl g46 dX6_sweep_46 ?_
      refine xw_icmp_ge C 170 dX6_sweep_47 (by decide) (fun c47 => ?_) (fun c47 => ?_)
      · have h := px_t c47 h
        refine xw_iload_n C dX6_sweep_170 rfl 2 rfl ?_
        cases h
        rw [hZ]
        exact xw_iret C hr dX6_sweep_171
      · have h := px_f c47 h
        refine xw_aload_n C dX6_sweep_50 rfl 0 rfl ?_
        refine xw_get C in6 0 rfl rfl 13 (by decide) m44 rfl rfl dX6_sweep_51 ?_
        refine xw_bipush C (100) dX6_sweep_54 (by decide) ?_
        refine xw_iload_n C dX6_sweep_56 rfl 1 rfl ?_
        refine xw_imul C dX6_sweep_57 ?_
        refine xw_iload_n C dX6_sweep_58 rfl 3 rfl ?_
        refine xw_iadd C dX6_sweep_59 ?_
        obtain ⟨g60, h⟩ := px_x h
        refine xw_iald C 12 rfl g60 dX6_sweep_60 ?_
        refine xw_topi (fun b61 eb61 => ?_)
        have h := px_v h b61 eb61
        refine xw_istore C dX6_sweep_61 (by decide) (lv' := [(4, .int b61), (0, .ref o), (1, .int v1), (2, .int v2), (3, .int v3)]) rfl ?_
        refine xw_iconst C (0) dX6_sweep_63 (by decide) ?_
        refine xw_istore C dX6_sweep_64 (by decide) (lv' := [(5, .int (0)), (4, .int b61), (0, .ref o), (1, .int v1), (2, .int v2), (3, .int v3)]) rfl ?_
        refine xw_perm [2, 3, 4, 5, 1, 0] rfl ?_
        exact hL66 _ ih _ _ _ _ _ _ _ h
  have hJ36 : ∀ (v1 : Int32), ∀ (x : Ob), fX6_sweep_J36 v1 x = some r → XW E p l e rmX6_sweep s m args below meth c Z A 0 0 (w6 E o ad x) 36 6 [(0, .ref o), (1, .int v1)] [] := by
    intro v1 x h
    rw [fX6_sweep_J36] at h
    refine xw_iconst C (0) dX6_sweep_36 (by decide) ?_
    refine xw_istore_n C dX6_sweep_37 rfl (by decide) (lv' := [(2, .int (0)), (0, .ref o), (1, .int v1)]) rfl ?_
    refine xw_iconst C (0) dX6_sweep_38 (by decide) ?_
    refine xw_istore_n C dX6_sweep_39 rfl (by decide) (lv' := [(3, .int (0)), (2, .int (0)), (0, .ref o), (1, .int v1)]) rfl ?_
    refine xw_perm [2, 3, 1, 0] rfl ?_
    exact hL40 _ _ _ _ _ h
  have hL17 : ∀ n : Nat, ∀ (v1 : Int32), ∀ (v2 : Int32), ∀ (x : Ob), fX6_sweep_L17 n v1 v2 x = some r → XW E p l e rmX6_sweep s m args below meth c Z A 0 0 (w6 E o ad x) 17 6 [(0, .ref o), (1, .int v1), (2, .int v2)] [] := by
    intro n
    induction n with
    | zero =>
      intro v1 v2 x h
      rw [fX6_sweep_L17] at h
      cases h
    | succ n ih =>
      intro v1 v2 x h
      rw [fX6_sweep_L17] at h
      refine xw_iload_n C dX6_sweep_17 rfl 2 rfl ?_
      refine xw_bipush C (64) dX6_sweep_18 (by decide) ?_
      refine xw_icmp_ge C 36 dX6_sweep_20 (by decide) (fun c20 => ?_) (fun c20 => ?_)
      · have h := px_t c20 h
        refine xw_perm [0, 1] rfl ?_
        exact hJ36 _ _ h
      · have h := px_f c20 h
        refine xw_aload_n C dX6_sweep_23 rfl 0 rfl ?_
        refine xw_get C in6 0 rfl rfl 22 (by decide) m62 rfl rfl dX6_sweep_24 ?_
        refine xw_iload_n C dX6_sweep_27 rfl 2 rfl ?_
        refine xw_iconst C (0) dX6_sweep_28 (by decide) ?_
        obtain ⟨g29, h⟩ := px_x h
        refine px_n h (fun x_29 ex_29 h => ?_)
        refine xw_iast (w' := w6 E o ad x_29) C 18 rfl g29 (by rw [ex_29]; rfl) dX6_sweep_29 ?_
        refine px_n h (fun b30 eb30 h => ?_)
        refine xw_iinc (v := b30) C dX6_sweep_30 2 rfl eb30 (by decide) (lv' := [(2, .int b30), (0, .ref o), (1, .int v1)]) rfl ?_
        refine xw_goto C 17 dX6_sweep_33 (by decide) ?_
        refine xw_perm [1, 2, 0] rfl ?_
        exact ih _ _ _ h
  rw [fX6_sweep] at hf
  have h := hf
  refine xw_aload_n C dX6_sweep_0 rfl 0 rfl ?_
  refine xw_iconst C (0) dX6_sweep_1 (by decide) ?_
  refine px_n h (fun x_2 ex_2 h => ?_)
  refine xw_put (w' := w6 E o ad x_2) C in6 tyX6 tyX6_ok nmX6 0 rfl rfl 0 (by decide) m77 rfl rfl rfl (Nat.le_of_ble_eq_true rfl) (by rw [ex_2]; rfl) dX6_sweep_2 ?_
  refine xw_aload_n C dX6_sweep_5 rfl 0 rfl ?_
  refine xw_iload_n C dX6_sweep_6 rfl 1 rfl ?_
  obtain ⟨q7, eq7, h⟩ := px_b h
  refine xw_callVI (w' := w6 E o ad x_2) (u := []) (v := []) C (ok_X6_isTree (o := o) (ad := ad) (x := x_2) eq7) 1 gX6_sweep_X6_isTree rfl ⟨rfl, rfl⟩ (by decide +kernel) ⟨Nat.le_of_ble_eq_true rfl, Nat.le_of_ble_eq_true rfl⟩ 0 6 rfl rfl rfl (Nat.le_of_ble_eq_true rfl) ⟨Nat.zero_le _, Nat.zero_le _⟩ rfl xe0 xe0.symm dX6_sweep_7 ?_
  refine xw_if_ne C 15 dX6_sweep_10 (by decide) (fun c10 => ?_) (fun c10 => ?_)
  · have h := px_f c10 h
    refine xw_iconst C (0) dX6_sweep_15 (by decide) ?_
    refine xw_istore_n C dX6_sweep_16 rfl (by decide) (lv' := [(2, .int (0)), (0, .ref o), (1, .int p1)]) rfl ?_
    refine xw_perm [1, 2, 0] rfl ?_
    exact hL17 _ _ _ _ h
  · have h := px_t c10 h
    refine xw_iconst C (-1) dX6_sweep_13 (by decide) ?_
    cases h
    rw [hZ]
    exact xw_iret C hr dX6_sweep_14
def fX6_lays_J111 (k13 : Int32 → Int32 → Int32 → Int32 → Int32 → Ob → Option (Ob)) (v1 : Int32) (v2 : Int32) (v3 : Int32) (v4 : Int32) (v5 : Int32) (x : Ob) : Option (Ob) :=
  px_let (v5 + (1) : Int32) (fun b111 =>
  k13 v1 v2 v3 v4 b111 x)
def fX6_lays_J94 (k13 : Int32 → Int32 → Int32 → Int32 → Int32 → Ob → Option (Ob)) (v1 : Int32) (v2 : Int32) (v3 : Int32) (v4 : Int32) (v5 : Int32) (v7 : Int32) (x : Ob) : Option (Ob) :=
  (if v7 < 0 then
    fX6_lays_J111 (k13) v1 v2 v3 v4 v5 x
  else
    ix v4 64 (fun j107 =>
    px_let (ob_a x 25 j107 v7) (fun x_107 =>
    px_let (v4 + (1) : Int32) (fun b108 =>
    fX6_lays_J111 (k13) v1 v2 v3 b108 v5 x_107))))
def fX6_lays_L13 : Nat → Int32 → Int32 → Int32 → Int32 → Int32 → Ob → Option (Ob)
  | 0, _, _, _, _, _, _ => none
  | n + 1, v1, v2, v3, v4, v5, x =>
  (if v4 ≤ v5 then
    some x
  else
    (if v3 ≤ v5 then
      some x
    else
      ix v5 64 (fun j36 =>
      ix (x.2 25 j36) 64 (fun j38 =>
      px_let (ob_a x 24 j38 v2) (fun x_38 =>
      ix v5 64 (fun j53 =>
      ix (((64) * v1) + (x_38.2 25 j53)) 512 (fun j55 =>
      px_let ((x_38.2 5 j55) : Int32) (fun b56 =>
      ix v5 64 (fun j72 =>
      ix (((64) * v1) + (x_38.2 25 j72)) 512 (fun j74 =>
      px_let ((x_38.2 6 j74) : Int32) (fun b75 =>
      (if b56 < 0 then
        fX6_lays_J94 (fX6_lays_L13 n) v1 v2 v3 v4 v5 b75 x_38
      else
        ix v4 64 (fun j90 =>
        px_let (ob_a x_38 25 j90 b56) (fun x_90 =>
        px_let (v4 + (1) : Int32) (fun b91 =>
        fX6_lays_J94 (fX6_lays_L13 n) v1 v2 v3 b91 v5 b75 x_90)))))))))))))))
def fX6_lays (p1 : Int32) (p2 : Int32) (p3 : Int32) (x : Ob) : Option (Ob) :=
  ix (0) 64 (fun j9 =>
  px_let (ob_a x 25 j9 p2) (fun x_9 =>
  fX6_lays_L13 FU p1 p2 p3 (1) (0) x_9))
abbrev rmX6_lays : Room := { frames := 0, cells := 0, slots := 0, locals := 0 }
set_option maxHeartbeats 4000000 in
set_option maxRecDepth 100000 in
theorem ok_X6_lays {l : Launch} {E : En} {o : Nat} {ad : (Nat → Nat)} {p1 : Int32} {p2 : Int32} {p3 : Int32} {x : Ob} {r : Ob} (hf : fX6_lays p1 p2 p3 x = some r) : CV l yX6_lays wsX6_lays (rmX6_lays) [.ref o, .int p1, .int p2, .int p3] E (w6 E o ad x) (w6 E o ad r) := by
  refine xc_V (by decide) rfl (Nat.le_of_ble_eq_true rfl) [(0, .ref o), (1, .int p1), (2, .int p2), (3, .int p3)] rfl (fun p e s m below meth c A C hr => ?_)
  generalize ([.ref o, .int p1, .int p2, .int p3] : List Value).toArray = args at C ⊢
  obtain ⟨Z, hZ⟩ : ∃ Z, Z = ZV E (w6 E o ad r) A below args s 0 0 := ⟨_, rfl⟩
  rw [← hZ]
  have in6 : ∀ w ∈ wsX60, w ∈ wsX6_lays := by decide +kernel
  have m19 : Cond.fieldLink RX6 19 "TurningTreesModel" "left" "[I" ∈ wsX6_lays := by decide +kernel
  have m22 : Cond.fieldLink RX6 22 "TurningTreesModel" "right" "[I" ∈ wsX6_lays := by decide +kernel
  have m68 : Cond.fieldLink RX6 68 "TurningTreesModel" "pageOf" "[I" ∈ wsX6_lays := by decide +kernel
  have m71 : Cond.fieldLink RX6 71 "TurningTreesModel" "line" "[I" ∈ wsX6_lays := by decide +kernel
  have hJ111 : ∀ (k13 : Int32 → Int32 → Int32 → Int32 → Int32 → Ob → Option (Ob)), (∀ (v1 : Int32), ∀ (v2 : Int32), ∀ (v3 : Int32), ∀ (v4 : Int32), ∀ (v5 : Int32), ∀ (x : Ob), k13 v1 v2 v3 v4 v5 x = some r → XW E p l e rmX6_lays s m args below meth c Z A 0 0 (w6 E o ad x) 13 8 [(0, .ref o), (1, .int v1), (2, .int v2), (3, .int v3), (4, .int v4), (5, .int v5)] []) → ∀ (v1 : Int32), ∀ (v2 : Int32), ∀ (v3 : Int32), ∀ (v4 : Int32), ∀ (v5 : Int32), ∀ (x : Ob), fX6_lays_J111 k13 v1 v2 v3 v4 v5 x = some r → XW E p l e rmX6_lays s m args below meth c Z A 0 0 (w6 E o ad x) 111 8 [(0, .ref o), (1, .int v1), (2, .int v2), (3, .int v3), (4, .int v4), (5, .int v5)] [] := by
    intro k13 hk13 v1 v2 v3 v4 v5 x h
    rw [fX6_lays_J111] at h
    refine px_n h (fun b111 eb111 h => ?_)
    refine xw_iinc (v := b111) C dX6_lays_111 5 rfl eb111 (by decide) (lv' := [(5, .int b111), (0, .ref o), (1, .int v1), (2, .int v2), (3, .int v3), (4, .int v4)]) rfl ?_
    refine xw_goto C 13 dX6_lays_114 (by decide) ?_
    refine xw_perm [1, 2, 3, 4, 5, 0] rfl ?_
    exact hk13 _ _ _ _ _ _ h
  have hJ94 : ∀ (k13 : Int32 → Int32 → Int32 → Int32 → Int32 → Ob → Option (Ob)), (∀ (v1 : Int32), ∀ (v2 : Int32), ∀ (v3 : Int32), ∀ (v4 : Int32), ∀ (v5 : Int32), ∀ (x : Ob), k13 v1 v2 v3 v4 v5 x = some r → XW E p l e rmX6_lays s m args below meth c Z A 0 0 (w6 E o ad x) 13 8 [(0, .ref o), (1, .int v1), (2, .int v2), (3, .int v3), (4, .int v4), (5, .int v5)] []) → ∀ (v1 : Int32), ∀ (v2 : Int32), ∀ (v3 : Int32), ∀ (v4 : Int32), ∀ (v5 : Int32), ∀ (v7 : Int32), ∀ (x : Ob), fX6_lays_J94 k13 v1 v2 v3 v4 v5 v7 x = some r → XW E p l e rmX6_lays s m args below meth c Z A 0 0 (w6 E o ad x) 94 8 [(0, .ref o), (1, .int v1), (2, .int v2), (3, .int v3), (4, .int v4), (5, .int v5), (7, .int v7)] [] := by
    intro k13 hk13 v1 v2 v3 v4 v5 v7 x h
    rw [fX6_lays_J94] at h
    refine xw_iload C dX6_lays_94 6 rfl ?_
    refine xw_if_lt C 111 dX6_lays_96 (by decide) (fun c96 => ?_) (fun c96 => ?_)
    · have h := px_t c96 h
      refine xw_perm [0, 1, 2, 3, 4, 5] rfl ?_
      exact hJ111 _ hk13 _ _ _ _ _ _ h
    · have h := px_f c96 h
      refine xw_aload_n C dX6_lays_99 rfl 0 rfl ?_
      refine xw_get C in6 0 rfl rfl 25 (by decide) m71 rfl rfl dX6_lays_100 ?_
      refine xw_iload C dX6_lays_103 4 rfl ?_
      refine xw_iload C dX6_lays_105 6 rfl ?_
      obtain ⟨g107, h⟩ := px_x h
      refine px_n h (fun x_107 ex_107 h => ?_)
      refine xw_iast (w' := w6 E o ad x_107) C 21 rfl g107 (by rw [ex_107]; rfl) dX6_lays_107 ?_
      refine px_n h (fun b108 eb108 h => ?_)
      refine xw_iinc (v := b108) C dX6_lays_108 4 rfl eb108 (by decide) (lv' := [(4, .int b108), (0, .ref o), (1, .int v1), (2, .int v2), (3, .int v3), (5, .int v5), (7, .int v7)]) rfl ?_
      refine xw_perm [1, 2, 3, 4, 0, 5] rfl ?_
      exact hJ111 _ hk13 _ _ _ _ _ _ h
  have hL13 : ∀ n : Nat, ∀ (v1 : Int32), ∀ (v2 : Int32), ∀ (v3 : Int32), ∀ (v4 : Int32), ∀ (v5 : Int32), ∀ (x : Ob), fX6_lays_L13 n v1 v2 v3 v4 v5 x = some r → XW E p l e rmX6_lays s m args below meth c Z A 0 0 (w6 E o ad x) 13 8 [(0, .ref o), (1, .int v1), (2, .int v2), (3, .int v3), (4, .int v4), (5, .int v5)] [] := by
    intro n
    induction n with
    | zero =>
      intro v1 v2 v3 v4 v5 x h
      rw [fX6_lays_L13] at h
      cases h
    | succ n ih =>
      intro v1 v2 v3 v4 v5 x h
      rw [fX6_lays_L13] at h
      refine xw_iload C dX6_lays_13 5 rfl ?_
      refine xw_iload C dX6_lays_15 4 rfl ?_
      refine xw_icmp_ge C 117 dX6_lays_17 (by decide) (fun c17 => ?_) (fun c17 => ?_)
      · have h := px_t c17 h
        cases h
        rw [hZ]
        exact xw_vret C hr dX6_lays_117
      · have h := px_f c17 h
        refine xw_iload C dX6_lays_20 5 rfl ?_
        refine xw_iload_n C dX6_lays_22 rfl 3 rfl ?_
        refine xw_icmp_ge C 117 dX6_lays_23 (by decide) (fun c23 => ?_) (fun c23 => ?_)
        · have h := px_t c23 h
          cases h
          rw [hZ]
          exact xw_vret C hr dX6_lays_117
        · have h := px_f c23 h
          refine xw_aload_n C dX6_lays_26 rfl 0 rfl ?_
          refine xw_get C in6 0 rfl rfl 24 (by decide) m68 rfl rfl dX6_lays_27 ?_
          refine xw_aload_n C dX6_lays_30 rfl 0 rfl ?_
          refine xw_get C in6 0 rfl rfl 25 (by decide) m71 rfl rfl dX6_lays_31 ?_
          refine xw_iload C dX6_lays_34 5 rfl ?_
          obtain ⟨g36, h⟩ := px_x h
          refine xw_iald C 21 rfl g36 dX6_lays_36 ?_
          refine xw_iload_n C dX6_lays_37 rfl 2 rfl ?_
          obtain ⟨g38, h⟩ := px_x h
          refine px_n h (fun x_38 ex_38 h => ?_)
          refine xw_iast (w' := w6 E o ad x_38) C 20 rfl g38 (by rw [ex_38]; rfl) dX6_lays_38 ?_
          refine xw_aload_n C dX6_lays_39 rfl 0 rfl ?_
          refine xw_get C in6 0 rfl rfl 5 (by decide) m19 rfl rfl dX6_lays_40 ?_
          refine xw_bipush C (64) dX6_lays_43 (by decide) ?_
          refine xw_iload_n C dX6_lays_45 rfl 1 rfl ?_
          refine xw_imul C dX6_lays_46 ?_
          refine xw_aload_n C dX6_lays_47 rfl 0 rfl ?_
          refine xw_get C in6 0 rfl rfl 25 (by decide) m71 rfl rfl dX6_lays_48 ?_
          refine xw_iload C dX6_lays_51 5 rfl ?_
          obtain ⟨g53, h⟩ := px_x h
          refine xw_iald C 21 rfl g53 dX6_lays_53 ?_
          refine xw_iadd C dX6_lays_54 ?_
          obtain ⟨g55, h⟩ := px_x h
          refine xw_iald C 4 rfl g55 dX6_lays_55 ?_
          refine xw_topi (fun b56 eb56 => ?_)
          have h := px_v h b56 eb56
          refine xw_istore C dX6_lays_56 (by decide) (lv' := [(6, .int b56), (0, .ref o), (1, .int v1), (2, .int v2), (3, .int v3), (4, .int v4), (5, .int v5)]) rfl ?_
          refine xw_aload_n C dX6_lays_58 rfl 1 rfl ?_
          refine xw_get C in6 0 rfl rfl 6 (by decide) m22 rfl rfl dX6_lays_59 ?_
          refine xw_bipush C (64) dX6_lays_62 (by decide) ?_
          refine xw_iload_n C dX6_lays_64 rfl 2 rfl ?_
          refine xw_imul C dX6_lays_65 ?_
          refine xw_aload_n C dX6_lays_66 rfl 1 rfl ?_
          refine xw_get C in6 0 rfl rfl 25 (by decide) m71 rfl rfl dX6_lays_67 ?_
          refine xw_iload C dX6_lays_70 6 rfl ?_
          obtain ⟨g72, h⟩ := px_x h
          refine xw_iald C 21 rfl g72 dX6_lays_72 ?_
          refine xw_iadd C dX6_lays_73 ?_
          obtain ⟨g74, h⟩ := px_x h
          refine xw_iald C 5 rfl g74 dX6_lays_74 ?_
          refine xw_topi (fun b75 eb75 => ?_)
          have h := px_v h b75 eb75
          refine xw_istore C dX6_lays_75 (by decide) (lv' := [(7, .int b75), (6, .int b56), (0, .ref o), (1, .int v1), (2, .int v2), (3, .int v3), (4, .int v4), (5, .int v5)]) rfl ?_
          refine xw_iload C dX6_lays_77 1 rfl ?_
          refine xw_if_lt C 94 dX6_lays_79 (by decide) (fun c79 => ?_) (fun c79 => ?_)
          · have h := px_t c79 h
            refine xw_perm [2, 3, 4, 5, 6, 7, 0] rfl ?_
            exact hJ94 _ ih _ _ _ _ _ _ _ h
          · have h := px_f c79 h
            refine xw_aload_n C dX6_lays_82 rfl 2 rfl ?_
            refine xw_get C in6 0 rfl rfl 25 (by decide) m71 rfl rfl dX6_lays_83 ?_
            refine xw_iload C dX6_lays_86 6 rfl ?_
            refine xw_iload C dX6_lays_88 1 rfl ?_
            obtain ⟨g90, h⟩ := px_x h
            refine px_n h (fun x_90 ex_90 h => ?_)
            refine xw_iast (w' := w6 E o ad x_90) C 21 rfl g90 (by rw [ex_90]; rfl) dX6_lays_90 ?_
            refine px_n h (fun b91 eb91 h => ?_)
            refine xw_iinc (v := b91) C dX6_lays_91 6 rfl eb91 (by decide) (lv' := [(4, .int b91), (7, .int b75), (6, .int b56), (0, .ref o), (1, .int v1), (2, .int v2), (3, .int v3), (5, .int v5)]) rfl ?_
            refine xw_perm [3, 4, 5, 6, 0, 7, 1] rfl ?_
            exact hJ94 _ ih _ _ _ _ _ _ _ h
  rw [fX6_lays] at hf
  have h := hf
  refine xw_iconst C (1) dX6_lays_0 (by decide) ?_
  refine xw_istore C dX6_lays_1 (by decide) (lv' := [(4, .int (1)), (0, .ref o), (1, .int p1), (2, .int p2), (3, .int p3)]) rfl ?_
  refine xw_aload_n C dX6_lays_3 rfl 1 rfl ?_
  refine xw_get C in6 0 rfl rfl 25 (by decide) m71 rfl rfl dX6_lays_4 ?_
  refine xw_iconst C (0) dX6_lays_7 (by decide) ?_
  refine xw_iload_n C dX6_lays_8 rfl 3 rfl ?_
  obtain ⟨g9, h⟩ := px_x h
  refine px_n h (fun x_9 ex_9 h => ?_)
  refine xw_iast (w' := w6 E o ad x_9) C 21 rfl g9 (by rw [ex_9]; rfl) dX6_lays_9 ?_
  refine xw_iconst C (0) dX6_lays_10 (by decide) ?_
  refine xw_istore C dX6_lays_11 (by decide) (lv' := [(5, .int (0)), (4, .int (1)), (0, .ref o), (1, .int p1), (2, .int p2), (3, .int p3)]) rfl ?_
  refine xw_perm [2, 3, 4, 5, 1, 0] rfl ?_
  exact hL13 _ _ _ _ _ _ _ h
