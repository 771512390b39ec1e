def fX6_remove_J155 (v1 : Int32) (v4 : Int32) (x : Ob) : Option (Int32 × Ob) :=
  ix v1 8 (fun j160 =>
  (if (x.2 2 j160) = (4) then
    ix v1 8 (fun j171 =>
    ix v1 8 (fun j179 =>
    (if ((2) * (x.2 11 j179)) ≤ ((3) * (x.2 8 j171)) then
      some (v4, x)
    else
      ix v1 8 (fun j194 =>
      ix v1 8 (fun j195 =>
      px_let (ob_a x 11 j195 (x.2 8 j194)) (fun x_195 =>
      ix v1 8 (fun j201 =>
      (if (x_195.2 3 j201) < 0 then
        some (v4, x_195)
      else
        ix v1 8 (fun j212 =>
        Option.bind (fX6_makesEven v1 (x_195.2 3 j212) x_195) (fun q213 =>
        some (v4, q213)))))))))))
  else
    some (v4, x)))
def fX6_remove_J101 (v1 : Int32) (v2 : Int32) (v4 : Int32) (x : Ob) : Option (Int32 × Ob) :=
  ix (((64) * v1) + v2) 512 (fun j111 =>
  px_let ((x.2 4 j111) : Int32) (fun b112 =>
  Option.bind (fX6_takesPlace v1 v2 (-1) x) (fun q118 =>
  ix (((64) * v1) + v2) 512 (fun j132 =>
  px_let (ob_a q118 7 j132 (vp_nar .boolean (0))) (fun x_132 =>
  ix v1 8 (fun j139 =>
  ix v1 8 (fun j142 =>
  px_let (ob_a x_132 8 j142 ((x_132.2 8 j139) - (1))) (fun x_142 =>
  (if b112 < 0 then
    fX6_remove_J155 v1 v4 x_142
  else
    Option.bind (fX6_acts v1 b112 x_142) (fun q152 =>
    fX6_remove_J155 v1 v4 q152))))))))))
def fX6_remove_L78 : Nat → Int32 → Int32 → Int32 → Int32 → Ob → Option (Int32 × Ob)
  | 0, _, _, _, _, _ => none
  | n + 1, v1, v2, v4, v5, x =>
  (if v5 < 0 then
    fX6_remove_J101 v1 v2 v4 x
  else
    Option.bind (fX6_turn v1 v5 x) (fun q87 =>
    Option.bind (fX6_heir v1 v2 q87) (fun q93 =>
    fX6_remove_L78 n v1 v2 v4 q93 q87)))
def fX6_remove_J21 (v1 : Int32) (v2 : Int32) (s0 : Int32) (x : Ob) : Option (Int32 × Ob) :=
  px_let (ob_i x 0 s0) (fun x_21 =>
  (if (x_21.1 0) ≤ 0 then
    Option.bind (fX6_goes v1 v2 x_21) (fun q36 =>
    px_let (q36.1 : Int32) (fun b39 =>
    px_let ((q36.2.1 16) : Int32) (fun b44 =>
    (if b39 = 0 then
      (if (q36.2.1 17) < 0 then
        some ((-b44), q36.2)
      else
        Option.bind (fX6_acts v1 (q36.2.1 17) q36.2) (fun q63 =>
        some ((-b44), q63)))
    else
      Option.bind (fX6_heir v1 v2 q36.2) (fun q73 =>
      fX6_remove_L78 FU v1 v2 b44 q73 q36.2)))))
  else
    some ((0), x_21)))
def fX6_remove_J20 (v1 : Int32) (v2 : Int32) (x : Ob) : Option (Int32 × Ob) :=
  fX6_remove_J21 v1 v2 (1) x
def fX6_remove (p1 : Int32) (p2 : Int32) (x : Ob) : Option (Int32 × Ob) :=
  Option.bind (fX6_isTree p1 x) (fun q3 =>
  (if q3 = 0 then
    fX6_remove_J20 p1 p2 x
  else
    Option.bind (fX6_isKey p2) (fun q10 =>
    (if q10 = 0 then
      fX6_remove_J20 p1 p2 x
    else
      fX6_remove_J21 p1 p2 (0) x))))
abbrev rmX6_remove : Room := { frames := 73, cells := 0, slots := 0, locals := 1752 }
set_option maxHeartbeats 4000000 in
set_option maxRecDepth 100000 in
theorem ok_X6_remove {l : Launch} {E : En} {o : Nat} {ad : (Nat → Nat)} {p1 : Int32} {p2 : Int32} {x : Ob} {r : Int32 × Ob} (hf : fX6_remove p1 p2 x = some r) : CI l yX6_remove wsX6_remove (rmX6_remove) [.ref o, .int p1, .int p2] E (w6 E o ad x) (w6 E o ad r.2) (r.1) := by
  refine xc_I (by decide) rfl (Nat.le_of_ble_eq_true rfl) [(0, .ref o), (1, .int p1), (2, .int p2)] rfl (fun p e s m below meth c A C hr => ?_)
  generalize ([.ref o, .int p1, .int p2] : List Value).toArray = args at C ⊢
  obtain ⟨Z, hZ⟩ : ∃ Z, Z = ZI E (w6 E o ad r.2) (r.1) A below args s 0 0 := ⟨_, rfl⟩
  rw [← hZ]
  have in6 : ∀ w ∈ wsX60, w ∈ wsX6_remove := by decide +kernel
  have m7 : Cond.fieldLink RX6 7 "TurningTreesModel" "kind" "[I" ∈ wsX6_remove := by decide +kernel
  have m13 : Cond.fieldLink RX6 13 "TurningTreesModel" "root" "[I" ∈ wsX6_remove := by decide +kernel
  have m16 : Cond.fieldLink RX6 16 "TurningTreesModel" "above" "[I" ∈ wsX6_remove := by decide +kernel
  have m25 : Cond.fieldLink RX6 25 "TurningTreesModel" "isIn" "[Z" ∈ wsX6_remove := by decide +kernel
  have m29 : Cond.fieldLink RX6 29 "TurningTreesModel" "many" "[I" ∈ wsX6_remove := by decide +kernel
  have m38 : Cond.fieldLink RX6 38 "TurningTreesModel" "most" "[I" ∈ wsX6_remove := by decide +kernel
  have m77 : Cond.fieldLink RX6 77 "TurningTreesModel" "thrown" "I" ∈ wsX6_remove := by decide +kernel
  have m148 : Cond.fieldLink RX6 148 "TurningTreesModel" "cost" "I" ∈ wsX6_remove := by decide +kernel
  have m151 : Cond.fieldLink RX6 151 "TurningTreesModel" "last" "I" ∈ wsX6_remove := by decide +kernel
  have hJ155 : ∀ (v1 : Int32), ∀ (v4 : Int32), ∀ (x : Ob), fX6_remove_J155 v1 v4 x = some r → XW E p l e rmX6_remove s m args below meth c Z A 0 0 (w6 E o ad x) 155 6 [(0, .ref o), (1, .int v1), (4, .int v4)] [] := by
    intro v1 v4 x h
    rw [fX6_remove_J155] at h
    refine xw_aload_n C dX6_remove_155 rfl 0 rfl ?_
    refine xw_get C in6 0 rfl rfl 2 (by decide) m7 rfl rfl dX6_remove_156 ?_
    refine xw_iload_n C dX6_remove_159 rfl 1 rfl ?_
    obtain ⟨g160, h⟩ := px_x h
    refine xw_iald C 1 rfl g160 dX6_remove_160 ?_
    refine xw_iconst C (4) dX6_remove_161 (by decide) ?_
    refine xw_icmp_ne C 216 dX6_remove_162 (by decide) (fun c162 => ?_) (fun c162 => ?_)
    · have h := px_f c162 h
      refine xw_iload C dX6_remove_216 2 rfl ?_
      cases h
      rw [hZ]
      exact xw_iret C hr dX6_remove_218
    · have h := px_t c162 h
      refine xw_iconst C (3) dX6_remove_165 (by decide) ?_
      refine xw_aload_n C dX6_remove_166 rfl 0 rfl ?_
      refine xw_get C in6 0 rfl rfl 8 (by decide) m29 rfl rfl dX6_remove_167 ?_
      refine xw_iload_n C dX6_remove_170 rfl 1 rfl ?_
      obtain ⟨g171, h⟩ := px_x h
      refine xw_iald C 7 rfl g171 dX6_remove_171 ?_
      refine xw_imul C dX6_remove_172 ?_
      refine xw_iconst C (2) dX6_remove_173 (by decide) ?_
      refine xw_aload_n C dX6_remove_174 rfl 0 rfl ?_
      refine xw_get C in6 0 rfl rfl 11 (by decide) m38 rfl rfl dX6_remove_175 ?_
      refine xw_iload_n C dX6_remove_178 rfl 1 rfl ?_
      obtain ⟨g179, h⟩ := px_x h
      refine xw_iald C 10 rfl g179 dX6_remove_179 ?_
      refine xw_imul C dX6_remove_180 ?_
      refine xw_icmp_ge C 216 dX6_remove_181 (by decide) (fun c181 => ?_) (fun c181 => ?_)
      · have h := px_t c181 h
        refine xw_iload C dX6_remove_216 2 rfl ?_
        cases h
        rw [hZ]
        exact xw_iret C hr dX6_remove_218
      · have h := px_f c181 h
        refine xw_aload_n C dX6_remove_184 rfl 0 rfl ?_
        refine xw_get C in6 0 rfl rfl 11 (by decide) m38 rfl rfl dX6_remove_185 ?_
        refine xw_iload_n C dX6_remove_188 rfl 1 rfl ?_
        refine xw_aload_n C dX6_remove_189 rfl 0 rfl ?_
        refine xw_get C in6 0 rfl rfl 8 (by decide) m29 rfl rfl dX6_remove_190 ?_
        refine xw_iload_n C dX6_remove_193 rfl 1 rfl ?_
        obtain ⟨g194, h⟩ := px_x h
        refine xw_iald C 7 rfl g194 dX6_remove_194 ?_
        obtain ⟨g195, h⟩ := px_x h
        refine px_n h (fun x_195 ex_195 h => ?_)
        refine xw_iast (w' := w6 E o ad x_195) C 10 rfl g195 (by rw [ex_195]; rfl) dX6_remove_195 ?_
        refine xw_aload_n C dX6_remove_196 rfl 0 rfl ?_
        refine xw_get C in6 0 rfl rfl 3 (by decide) m13 rfl rfl dX6_remove_197 ?_
        refine xw_iload_n C dX6_remove_200 rfl 1 rfl ?_
        obtain ⟨g201, h⟩ := px_x h
        refine xw_iald C 2 rfl g201 dX6_remove_201 ?_
        refine xw_if_lt C 216 dX6_remove_202 (by decide) (fun c202 => ?_) (fun c202 => ?_)
        · have h := px_t c202 h
          refine xw_iload C dX6_remove_216 2 rfl ?_
          cases h
          rw [hZ]
          exact xw_iret C hr dX6_remove_218
        · have h := px_f c202 h
          refine xw_aload_n C dX6_remove_205 rfl 0 rfl ?_
          refine xw_iload_n C dX6_remove_206 rfl 1 rfl ?_
          refine xw_aload_n C dX6_remove_207 rfl 0 rfl ?_
          refine xw_get C in6 0 rfl rfl 3 (by decide) m13 rfl rfl dX6_remove_208 ?_
          refine xw_iload_n C dX6_remove_211 rfl 1 rfl ?_
          obtain ⟨g212, h⟩ := px_x h
          refine xw_iald C 2 rfl g212 dX6_remove_212 ?_
          obtain ⟨q213, eq213, h⟩ := px_b h
          refine xw_callVV (w' := w6 E o ad q213) (u := []) (v := []) C (ok_X6_makesEven (o := o) (ad := ad) (x := x_195) eq213) 2 gX6_remove_X6_makesEven rfl ⟨rfl, rfl⟩ (by decide +kernel) ⟨Nat.le_of_ble_eq_true rfl, Nat.le_of_ble_eq_true rfl⟩ 0 6 rfl rfl rfl (Nat.le_of_ble_eq_true rfl) ⟨Nat.zero_le _, Nat.zero_le _⟩ rfl xe0 xe0.symm dX6_remove_213 ?_
          refine xw_iload C dX6_remove_216 2 rfl ?_
          cases h
          rw [hZ]
          exact xw_iret C hr dX6_remove_218
  have hJ101 : ∀ (v1 : Int32), ∀ (v2 : Int32), ∀ (v4 : Int32), ∀ (x : Ob), fX6_remove_J101 v1 v2 v4 x = some r → XW E p l e rmX6_remove s m args below meth c Z A 0 0 (w6 E o ad x) 101 6 [(0, .ref o), (1, .int v1), (2, .int v2), (4, .int v4)] [] := by
    intro v1 v2 v4 x h
    rw [fX6_remove_J101] at h
    refine xw_aload_n C dX6_remove_101 rfl 0 rfl ?_
    refine xw_get C in6 0 rfl rfl 4 (by decide) m16 rfl rfl dX6_remove_102 ?_
    refine xw_bipush C (64) dX6_remove_105 (by decide) ?_
    refine xw_iload_n C dX6_remove_107 rfl 1 rfl ?_
    refine xw_imul C dX6_remove_108 ?_
    refine xw_iload_n C dX6_remove_109 rfl 2 rfl ?_
    refine xw_iadd C dX6_remove_110 ?_
    obtain ⟨g111, h⟩ := px_x h
    refine xw_iald C 3 rfl g111 dX6_remove_111 ?_
    refine xw_topi (fun b112 eb112 => ?_)
    have h := px_v h b112 eb112
    refine xw_istore C dX6_remove_112 (by decide) (lv' := [(5, .int b112), (0, .ref o), (1, .int v1), (2, .int v2), (4, .int v4)]) rfl ?_
    refine xw_aload_n C dX6_remove_114 rfl 1 rfl ?_
    refine xw_iload_n C dX6_remove_115 rfl 2 rfl ?_
    refine xw_iload_n C dX6_remove_116 rfl 3 rfl ?_
    refine xw_iconst C (-1) dX6_remove_117 (by decide) ?_
    obtain ⟨q118, eq118, h⟩ := px_b h
    refine xw_callVV (w' := w6 E o ad q118) (u := []) (v := []) C (ok_X6_takesPlace (o := o) (ad := ad) (x := x) eq118) 3 gX6_remove_X6_takesPlace rfl ⟨rfl, rfl⟩ (by decide +kernel) ⟨Nat.le_of_ble_eq_true rfl, Nat.le_of_ble_eq_true rfl⟩ 0 6 rfl rfl rfl (Nat.le_of_ble_eq_true rfl) ⟨Nat.zero_le _, Nat.zero_le _⟩ rfl xe0 xe0.symm dX6_remove_118 ?_
    refine xw_aload_n C dX6_remove_121 rfl 1 rfl ?_
    refine xw_get C in6 0 rfl rfl 7 (by decide) m25 rfl rfl dX6_remove_122 ?_
    refine xw_bipush C (64) dX6_remove_125 (by decide) ?_
    refine xw_iload_n C dX6_remove_127 rfl 2 rfl ?_
    refine xw_imul C dX6_remove_128 ?_
    refine xw_iload_n C dX6_remove_129 rfl 3 rfl ?_
    refine xw_iadd C dX6_remove_130 ?_
    refine xw_iconst C (0) dX6_remove_131 (by decide) ?_
    obtain ⟨g132, h⟩ := px_x h
    refine px_n h (fun x_132 ex_132 h => ?_)
    refine xw_zast (w' := w6 E o ad x_132) C 6 rfl g132 (by rw [ex_132]; rfl) dX6_remove_132 ?_
    refine xw_aload_n C dX6_remove_133 rfl 1 rfl ?_
    refine xw_get C in6 0 rfl rfl 8 (by decide) m29 rfl rfl dX6_remove_134 ?_
    refine xw_iload_n C dX6_remove_137 rfl 2 rfl ?_
    refine xw_dup2 C dX6_remove_138 rfl rfl ?_
    obtain ⟨g139, h⟩ := px_x h
    refine xw_iald C 7 rfl g139 dX6_remove_139 ?_
    refine xw_iconst C (1) dX6_remove_140 (by decide) ?_
    refine xw_isub C dX6_remove_141 ?_
    obtain ⟨g142, h⟩ := px_x h
    refine px_n h (fun x_142 ex_142 h => ?_)
    refine xw_iast (w' := w6 E o ad x_142) C 7 rfl g142 (by rw [ex_142]; rfl) dX6_remove_142 ?_
    refine xw_iload C dX6_remove_143 0 rfl ?_
    refine xw_if_lt C 155 dX6_remove_145 (by decide) (fun c145 => ?_) (fun c145 => ?_)
    · have h := px_t c145 h
      refine xw_perm [1, 2, 4] rfl ?_
      exact hJ155 _ _ _ h
    · have h := px_f c145 h
      refine xw_aload_n C dX6_remove_148 rfl 1 rfl ?_
      refine xw_iload_n C dX6_remove_149 rfl 2 rfl ?_
      refine xw_iload C dX6_remove_150 0 rfl ?_
      obtain ⟨q152, eq152, h⟩ := px_b h
      refine xw_callVV (w' := w6 E o ad q152) (u := []) (v := []) C (ok_X6_acts (o := o) (ad := ad) (x := x_142) eq152) 2 gX6_remove_X6_acts rfl ⟨rfl, rfl⟩ (by decide +kernel) ⟨Nat.le_of_ble_eq_true rfl, Nat.le_of_ble_eq_true rfl⟩ 0 6 rfl rfl rfl (Nat.le_of_ble_eq_true rfl) ⟨Nat.zero_le _, Nat.zero_le _⟩ rfl xe0 xe0.symm dX6_remove_152 ?_
      refine xw_perm [1, 2, 4] rfl ?_
      exact hJ155 _ _ _ h
  have hL78 : ∀ n : Nat, ∀ (v1 : Int32), ∀ (v2 : Int32), ∀ (v4 : Int32), ∀ (v5 : Int32), ∀ (x : Ob), fX6_remove_L78 n v1 v2 v4 v5 x = some r → XW E p l e rmX6_remove s m args below meth c Z A 0 0 (w6 E o ad x) 78 6 [(0, .ref o), (1, .int v1), (2, .int v2), (4, .int v4), (5, .int v5)] [] := by
    intro n
    induction n with
    | zero =>
      intro v1 v2 v4 v5 x h
      rw [fX6_remove_L78] at h
      cases h
    | succ n ih =>
      intro v1 v2 v4 v5 x h
      rw [fX6_remove_L78] at h
      refine xw_iload C dX6_remove_78 4 rfl ?_
      refine xw_if_lt C 101 dX6_remove_80 (by decide) (fun c80 => ?_) (fun c80 => ?_)
      · have h := px_t c80 h
        refine xw_perm [0, 1, 2, 3] rfl ?_
        exact hJ101 _ _ _ _ h
      · have h := px_f c80 h
        refine xw_aload_n C dX6_remove_83 rfl 0 rfl ?_
        refine xw_iload_n C dX6_remove_84 rfl 1 rfl ?_
        refine xw_iload C dX6_remove_85 4 rfl ?_
        obtain ⟨q87, eq87, h⟩ := px_b h
        refine xw_callVV (w' := w6 E o ad q87) (u := []) (v := []) C (ok_X6_turn (o := o) (ad := ad) (x := x) eq87) 2 gX6_remove_X6_turn rfl ⟨rfl, rfl⟩ (by decide +kernel) ⟨Nat.le_of_ble_eq_true rfl, Nat.le_of_ble_eq_true rfl⟩ 0 6 rfl rfl rfl (Nat.le_of_ble_eq_true rfl) ⟨Nat.zero_le _, Nat.zero_le _⟩ rfl xe0 xe0.symm dX6_remove_87 ?_
        refine xw_aload_n C dX6_remove_90 rfl 0 rfl ?_
        refine xw_iload_n C dX6_remove_91 rfl 1 rfl ?_
        refine xw_iload_n C dX6_remove_92 rfl 2 rfl ?_
        obtain ⟨q93, eq93, h⟩ := px_b h
        refine xw_callVI (w' := w6 E o ad q87) (u := []) (v := []) C (ok_X6_heir (o := o) (ad := ad) (x := q87) eq93) 2 gX6_remove_X6_heir rfl ⟨rfl, rfl⟩ (by decide +kernel) ⟨Nat.le_of_ble_eq_true rfl, Nat.le_of_ble_eq_true rfl⟩ 0 6 rfl rfl rfl (Nat.le_of_ble_eq_true rfl) ⟨Nat.zero_le _, Nat.zero_le _⟩ rfl xe0 xe0.symm dX6_remove_93 ?_
        refine xw_istore C dX6_remove_96 (by decide) (lv' := [(5, .int q93), (0, .ref o), (1, .int v1), (2, .int v2), (4, .int v4)]) rfl ?_
        refine xw_goto C 78 dX6_remove_98 (by decide) ?_
        refine xw_perm [1, 2, 3, 4, 0] rfl ?_
        exact ih _ _ _ _ _ h
  have hJ21 : ∀ (v1 : Int32), ∀ (v2 : Int32), ∀ (s0 : Int32), ∀ (x : Ob), fX6_remove_J21 v1 v2 s0 x = some r → XW E p l e rmX6_remove s m args below meth c Z A 0 0 (w6 E o ad x) 21 6 [(0, .ref o), (1, .int v1), (2, .int v2)] [.int s0, .ref o] := by
    intro v1 v2 s0 x h
    rw [fX6_remove_J21] at h
    refine px_n h (fun x_21 ex_21 h => ?_)
    refine xw_put (w' := w6 E o ad x_21) C in6 tyX6 tyX6_ok nmX6 0 rfl rfl 0 (by decide) m77 rfl rfl rfl (Nat.le_of_ble_eq_true rfl) (by rw [ex_21]; rfl) dX6_remove_21 ?_
    refine xw_aload_n C dX6_remove_24 rfl 0 rfl ?_
    refine xw_get C in6 0 rfl rfl 0 (by decide) m77 rfl rfl dX6_remove_25 ?_
    refine xw_if_le C 33 dX6_remove_28 (by decide) (fun c28 => ?_) (fun c28 => ?_)
    · have h := px_t c28 h
      refine xw_aload_n C dX6_remove_33 rfl 0 rfl ?_
      refine xw_iload_n C dX6_remove_34 rfl 1 rfl ?_
      refine xw_iload_n C dX6_remove_35 rfl 2 rfl ?_
      obtain ⟨q36, eq36, h⟩ := px_b h
      refine xw_callVI (w' := w6 E o ad q36.2) (u := []) (v := []) C (ok_X6_goes (o := o) (ad := ad) (x := x_21) eq36) 2 gX6_remove_X6_goes rfl ⟨rfl, rfl⟩ (by decide +kernel) ⟨Nat.le_of_ble_eq_true rfl, Nat.le_of_ble_eq_true rfl⟩ 0 6 rfl rfl rfl (Nat.le_of_ble_eq_true rfl) ⟨Nat.zero_le _, Nat.zero_le _⟩ rfl xe0 xe0.symm dX6_remove_36 ?_
      refine xw_topi (fun b39 eb39 => ?_)
      have h := px_v h b39 eb39
      refine xw_istore_n C dX6_remove_39 rfl (by decide) (lv' := [(3, .int b39), (0, .ref o), (1, .int v1), (2, .int v2)]) rfl ?_
      refine xw_aload_n C dX6_remove_40 rfl 1 rfl ?_
      refine xw_get C in6 0 rfl rfl 16 (by decide) m148 rfl rfl dX6_remove_41 ?_
      refine xw_topi (fun b44 eb44 => ?_)
      have h := px_v h b44 eb44
      refine xw_istore C dX6_remove_44 (by decide) (lv' := [(4, .int b44), (3, .int b39), (0, .ref o), (1, .int v1), (2, .int v2)]) rfl ?_
      refine xw_iload_n C dX6_remove_46 rfl 1 rfl ?_
      refine xw_if_ne C 70 dX6_remove_47 (by decide) (fun c47 => ?_) (fun c47 => ?_)
      · have h := px_f c47 h
        refine xw_aload_n C dX6_remove_70 rfl 2 rfl ?_
        refine xw_iload_n C dX6_remove_71 rfl 3 rfl ?_
        refine xw_iload_n C dX6_remove_72 rfl 4 rfl ?_
        obtain ⟨q73, eq73, h⟩ := px_b h
        refine xw_callVI (w' := w6 E o ad q36.2) (u := []) (v := []) C (ok_X6_heir (o := o) (ad := ad) (x := q36.2) eq73) 2 gX6_remove_X6_heir rfl ⟨rfl, rfl⟩ (by decide +kernel) ⟨Nat.le_of_ble_eq_true rfl, Nat.le_of_ble_eq_true rfl⟩ 0 6 rfl rfl rfl (Nat.le_of_ble_eq_true rfl) ⟨Nat.zero_le _, Nat.zero_le _⟩ rfl xe0 xe0.symm dX6_remove_73 ?_
        refine xw_istore C dX6_remove_76 (by decide) (lv' := [(5, .int q73), (4, .int b44), (3, .int b39), (0, .ref o), (1, .int v1), (2, .int v2)]) rfl ?_
        refine xw_perm [3, 4, 5, 1, 0] rfl ?_
        exact hL78 _ _ _ _ _ _ h
      · have h := px_t c47 h
        refine xw_aload_n C dX6_remove_50 rfl 2 rfl ?_
        refine xw_get C in6 0 rfl rfl 17 (by decide) m151 rfl rfl dX6_remove_51 ?_
        refine xw_if_lt C 66 dX6_remove_54 (by decide) (fun c54 => ?_) (fun c54 => ?_)
        · have h := px_t c54 h
          refine xw_iload C dX6_remove_66 0 rfl ?_
          refine xw_ineg C dX6_remove_68 ?_
          cases h
          rw [hZ]
          exact xw_iret C hr dX6_remove_69
        · have h := px_f c54 h
          refine xw_aload_n C dX6_remove_57 rfl 2 rfl ?_
          refine xw_iload_n C dX6_remove_58 rfl 3 rfl ?_
          refine xw_aload_n C dX6_remove_59 rfl 2 rfl ?_
          refine xw_get C in6 0 rfl rfl 17 (by decide) m151 rfl rfl dX6_remove_60 ?_
          obtain ⟨q63, eq63, h⟩ := px_b h
          refine xw_callVV (w' := w6 E o ad q63) (u := []) (v := []) C (ok_X6_acts (o := o) (ad := ad) (x := q36.2) eq63) 2 gX6_remove_X6_acts rfl ⟨rfl, rfl⟩ (by decide +kernel) ⟨Nat.le_of_ble_eq_true rfl, Nat.le_of_ble_eq_true rfl⟩ 0 6 rfl rfl rfl (Nat.le_of_ble_eq_true rfl) ⟨Nat.zero_le _, Nat.zero_le _⟩ rfl xe0 xe0.symm dX6_remove_63 ?_
          refine xw_iload C dX6_remove_66 0 rfl ?_
          refine xw_ineg C dX6_remove_68 ?_
          cases h
          rw [hZ]
          exact xw_iret C hr dX6_remove_69
    · have h := px_f c28 h
      refine xw_iconst C (0) dX6_remove_31 (by decide) ?_
      cases h
      rw [hZ]
      exact xw_iret C hr dX6_remove_32
  have hJ20 : ∀ (v1 : Int32), ∀ (v2 : Int32), ∀ (x : Ob), fX6_remove_J20 v1 v2 x = some r → XW E p l e rmX6_remove s m args below meth c Z A 0 0 (w6 E o ad x) 20 6 [(0, .ref o), (1, .int v1), (2, .int v2)] [.ref o] := by
    intro v1 v2 x h
    rw [fX6_remove_J20] at h
    refine xw_iconst C (1) dX6_remove_20 (by decide) ?_
    exact hJ21 _ _ _ _ h
  rw [fX6_remove] at hf
  have h := hf
  refine xw_aload_n C dX6_remove_0 rfl 0 rfl ?_
  refine xw_aload_n C dX6_remove_1 rfl 0 rfl ?_
  refine xw_iload_n C dX6_remove_2 rfl 1 rfl ?_
  obtain ⟨q3, eq3, h⟩ := px_b h
  refine xw_callVI (w' := w6 E o ad x) (u := []) (v := []) C (ok_X6_isTree (o := o) (ad := ad) (x := x) eq3) 1 gX6_remove_X6_isTree rfl ⟨rfl, rfl⟩ (by decide +kernel) ⟨Nat.le_of_ble_eq_true rfl, Nat.le_of_ble_eq_true rfl⟩ 0 6 rfl rfl rfl (Nat.le_of_ble_eq_true rfl) ⟨Nat.zero_le _, Nat.zero_le _⟩ rfl xe0 xe0.symm dX6_remove_3 ?_
  refine xw_if_eq C 20 dX6_remove_6 (by decide) (fun c6 => ?_) (fun c6 => ?_)
  · have h := px_t c6 h
    exact hJ20 _ _ _ h
  · have h := px_f c6 h
    refine xw_iload_n C dX6_remove_9 rfl 2 rfl ?_
    obtain ⟨q10, eq10, h⟩ := px_b h
    refine xw_callSI (w' := w6 E o ad x) (u := []) (v := w6 E o ad x) C (ok_X6_isKey  eq10) 1 gX6_remove_X6_isKey rfl ⟨rfl, rfl⟩ (by decide +kernel) ⟨Nat.le_of_ble_eq_true rfl, Nat.le_of_ble_eq_true rfl⟩ rfl (Nat.le_of_ble_eq_true rfl) ⟨Nat.zero_le _, Nat.zero_le _⟩ rfl rfl rfl dX6_remove_10 ?_
    refine xw_if_eq C 20 dX6_remove_13 (by decide) (fun c13 => ?_) (fun c13 => ?_)
    · have h := px_t c13 h
      exact hJ20 _ _ _ h
    · have h := px_f c13 h
      refine xw_iconst C (0) dX6_remove_16 (by decide) ?_
      refine xw_goto C 21 dX6_remove_17 (by decide) ?_
      exact hJ21 _ _ _ _ h
def fX6_nearest_J39 (k13 : Int32 → Int32 → Int32 → Int32 → Ob → Option (Int32)) (v1 : Int32) (v2 : Int32) (v3 : Int32) (v4 : Int32) (s0 : Int32) (s1 : Int32) (x : Ob) : Option (Int32) :=
  (if s0 = s1 then
    some v4
  else
    ix (((64) * v1) + v4) 512 (fun j53 =>
    px_let ((x.2 4 j53) : Int32) (fun b54 =>
    k13 v1 v2 v3 b54 x)))
def fX6_nearest_J29 (k13 : Int32 → Int32 → Int32 → Int32 → Ob → Option (Int32)) (v1 : Int32) (v2 : Int32) (v3 : Int32) (v4 : Int32) (s0 : Int32) (x : Ob) : Option (Int32) :=
  (if v3 ≤ v2 then
    fX6_nearest_J39 (k13) v1 v2 v3 v4 s0 (0) x
  else
    fX6_nearest_J39 (k13) v1 v2 v3 v4 s0 (1) x)
def fX6_nearest_L13 : Nat → Int32 → Int32 → Int32 → Int32 → Ob → Option (Int32)
  | 0, _, _, _, _, _ => none
  | n + 1, v1, v2, v3, v4, x =>
  (if v4 < 0 then
    some v4
  else
    (if v3 ≤ v4 then
      fX6_nearest_J29 (fX6_nearest_L13 n) v1 v2 v3 v4 (0) x
    else
      fX6_nearest_J29 (fX6_nearest_L13 n) v1 v2 v3 v4 (1) x))
def fX6_nearest (p1 : Int32) (p2 : Int32) (p3 : Int32) (x : Ob) : Option (Int32) :=
  ix (((64) * p1) + p2) 512 (fun j10 =>
  px_let ((x.2 4 j10) : Int32) (fun b11 =>
  fX6_nearest_L13 FU p1 p2 p3 b11 x))
abbrev rmX6_nearest : Room := { frames := 0, cells := 0, slots := 0, locals := 0 }
set_option maxHeartbeats 4000000 in
set_option maxRecDepth 100000 in
theorem ok_X6_nearest {l : Launch} {E : En} {o : Nat} {ad : (Nat → Nat)} {p1 : Int32} {p2 : Int32} {p3 : Int32} {x : Ob} {r : Int32} (hf : fX6_nearest p1 p2 p3 x = some r) : CI l yX6_nearest wsX6_nearest (rmX6_nearest) [.ref o, .int p1, .int p2, .int p3] E (w6 E o ad x) (w6 E o ad x) (r) := by
  refine xc_I (by decide) rfl (Nat.le_of_ble_eq_true rfl) [(0, .ref o), (1, .int p1), (2, .int p2), (3, .int p3)] rfl (fun p e s m below meth c A C hr => ?_)
  generalize ([.ref o, .int p1, .int p2, .int p3] : List Value).toArray = args at C ⊢
  obtain ⟨Z, hZ⟩ : ∃ Z, Z = ZI E (w6 E o ad x) (r) A below args s 0 0 := ⟨_, rfl⟩
  rw [← hZ]
  have in6 : ∀ w ∈ wsX60, w ∈ wsX6_nearest := by decide +kernel
  have m16 : Cond.fieldLink RX6 16 "TurningTreesModel" "above" "[I" ∈ wsX6_nearest := by decide +kernel
  have hJ39 : ∀ (k13 : Int32 → Int32 → Int32 → Int32 → Ob → Option (Int32)), (∀ (v1 : Int32), ∀ (v2 : Int32), ∀ (v3 : Int32), ∀ (v4 : Int32), k13 v1 v2 v3 v4 x = some r → XW E p l e rmX6_nearest s m args below meth c Z A 0 0 (w6 E o ad x) 13 5 [(0, .ref o), (1, .int v1), (2, .int v2), (3, .int v3), (4, .int v4)] []) → ∀ (v1 : Int32), ∀ (v2 : Int32), ∀ (v3 : Int32), ∀ (v4 : Int32), ∀ (s0 : Int32), ∀ (s1 : Int32), fX6_nearest_J39 k13 v1 v2 v3 v4 s0 s1 x = some r → XW E p l e rmX6_nearest s m args below meth c Z A 0 0 (w6 E o ad x) 39 5 [(0, .ref o), (1, .int v1), (2, .int v2), (3, .int v3), (4, .int v4)] [.int s1, .int s0] := by
    intro k13 hk13 v1 v2 v3 v4 s0 s1 h
    rw [fX6_nearest_J39] at h
    refine xw_icmp_eq C 59 dX6_nearest_39 (by decide) (fun c39 => ?_) (fun c39 => ?_)
    · have h := px_t c39 h
      refine xw_iload C dX6_nearest_59 4 rfl ?_
      cases h
      rw [hZ]
      exact xw_iret C hr dX6_nearest_61
    · have h := px_f c39 h
      refine xw_aload_n C dX6_nearest_42 rfl 0 rfl ?_
      refine xw_get C in6 0 rfl rfl 4 (by decide) m16 rfl rfl dX6_nearest_43 ?_
      refine xw_bipush C (64) dX6_nearest_46 (by decide) ?_
      refine xw_iload_n C dX6_nearest_48 rfl 1 rfl ?_
      refine xw_imul C dX6_nearest_49 ?_
      refine xw_iload C dX6_nearest_50 4 rfl ?_
      refine xw_iadd C dX6_nearest_52 ?_
      obtain ⟨g53, h⟩ := px_x h
      refine xw_iald C 3 rfl g53 dX6_nearest_53 ?_
      refine xw_topi (fun b54 eb54 => ?_)
      have h := px_v h b54 eb54
      refine xw_istore C dX6_nearest_54 (by decide) (lv' := [(4, .int b54), (0, .ref o), (1, .int v1), (2, .int v2), (3, .int v3)]) rfl ?_
      refine xw_goto C 13 dX6_nearest_56 (by decide) ?_
      refine xw_perm [1, 2, 3, 4, 0] rfl ?_
      exact hk13 _ _ _ _ h
  have hJ29 : ∀ (k13 : Int32 → Int32 → Int32 → Int32 → Ob → Option (Int32)), (∀ (v1 : Int32), ∀ (v2 : Int32), ∀ (v3 : Int32), ∀ (v4 : Int32), k13 v1 v2 v3 v4 x = some r → XW E p l e rmX6_nearest s m args below meth c Z A 0 0 (w6 E o ad x) 13 5 [(0, .ref o), (1, .int v1), (2, .int v2), (3, .int v3), (4, .int v4)] []) → ∀ (v1 : Int32), ∀ (v2 : Int32), ∀ (v3 : Int32), ∀ (v4 : Int32), ∀ (s0 : Int32), fX6_nearest_J29 k13 v1 v2 v3 v4 s0 x = some r → XW E p l e rmX6_nearest s m args below meth c Z A 0 0 (w6 E o ad x) 29 5 [(0, .ref o), (1, .int v1), (2, .int v2), (3, .int v3), (4, .int v4)] [.int s0] := by
    intro k13 hk13 v1 v2 v3 v4 s0 h
    rw [fX6_nearest_J29] at h
    refine xw_iload_n C dX6_nearest_29 rfl 2 rfl ?_
    refine xw_iload_n C dX6_nearest_30 rfl 3 rfl ?_
    refine xw_icmp_ge C 38 dX6_nearest_31 (by decide) (fun c31 => ?_) (fun c31 => ?_)
    · have h := px_t c31 h
      refine xw_iconst C (0) dX6_nearest_38 (by decide) ?_
      exact hJ39 _ hk13 _ _ _ _ _ _ h
    · have h := px_f c31 h
      refine xw_iconst C (1) dX6_nearest_34 (by decide) ?_
      refine xw_goto C 39 dX6_nearest_35 (by decide) ?_
      exact hJ39 _ hk13 _ _ _ _ _ _ h
  have hL13 : ∀ n : Nat, ∀ (v1 : Int32), ∀ (v2 : Int32), ∀ (v3 : Int32), ∀ (v4 : Int32), fX6_nearest_L13 n v1 v2 v3 v4 x = some r → XW E p l e rmX6_nearest s m args below meth c Z A 0 0 (w6 E o ad x) 13 5 [(0, .ref o), (1, .int v1), (2, .int v2), (3, .int v3), (4, .int v4)] [] := by
    intro n
    induction n with
    | zero =>
      intro v1 v2 v3 v4 h
      rw [fX6_nearest_L13] at h
      cases h
    | succ n ih =>
      intro v1 v2 v3 v4 h
      rw [fX6_nearest_L13] at h
      refine xw_iload C dX6_nearest_13 4 rfl ?_
      refine xw_if_lt C 59 dX6_nearest_15 (by decide) (fun c15 => ?_) (fun c15 => ?_)
      · have h := px_t c15 h
        refine xw_iload C dX6_nearest_59 4 rfl ?_
        cases h
        rw [hZ]
        exact xw_iret C hr dX6_nearest_61
      · have h := px_f c15 h
        refine xw_iload C dX6_nearest_18 4 rfl ?_
        refine xw_iload_n C dX6_nearest_20 rfl 3 rfl ?_
        refine xw_icmp_ge C 28 dX6_nearest_21 (by decide) (fun c21 => ?_) (fun c21 => ?_)
        · have h := px_t c21 h
          refine xw_iconst C (0) dX6_nearest_28 (by decide) ?_
          exact hJ29 _ ih _ _ _ _ _ h
        · have h := px_f c21 h
          refine xw_iconst C (1) dX6_nearest_24 (by decide) ?_
          refine xw_goto C 29 dX6_nearest_25 (by decide) ?_
          exact hJ29 _ ih _ _ _ _ _ h
  rw [fX6_nearest] at hf
  have h := hf
  refine xw_aload_n C dX6_nearest_0 rfl 0 rfl ?_
  refine xw_get C in6 0 rfl rfl 4 (by decide) m16 rfl rfl dX6_nearest_1 ?_
  refine xw_bipush C (64) dX6_nearest_4 (by decide) ?_
  refine xw_iload_n C dX6_nearest_6 rfl 1 rfl ?_
  refine xw_imul C dX6_nearest_7 ?_
  refine xw_iload_n C dX6_nearest_8 rfl 2 rfl ?_
  refine xw_iadd C dX6_nearest_9 ?_
  obtain ⟨g10, h⟩ := px_x h
  refine xw_iald C 3 rfl g10 dX6_nearest_10 ?_
  refine xw_topi (fun b11 eb11 => ?_)
  have h := px_v h b11 eb11
  refine xw_istore C dX6_nearest_11 (by decide) (lv' := [(4, .int b11), (0, .ref o), (1, .int p1), (2, .int p2), (3, .int p3)]) rfl ?_
  refine xw_perm [1, 2, 3, 4, 0] rfl ?_
  exact hL13 _ _ _ _ _ h
def fX6_split_J85 (k45 : Int32 → Int32 → Int32 → Int32 → Ob → Option (Int32 × Ob)) (v1 : Int32) (v2 : Int32) (v3 : Int32) (v4 : Int32) (s0 : Int32) (s1 : Int32) (x : Ob) : Option (Int32 × Ob) :=
  ix s0 64 (fun j85 =>
  px_let (ob_a x 18 j85 s1) (fun x_85 =>
  px_let (v4 + (1) : Int32) (fun b86 =>
  k45 v1 v2 v3 b86 x_85)))
def fX6_split_J192 (k102 : Int32 → Int32 → Int32 → Int32 → Ob → Option (Int32 × Ob)) (v1 : Int32) (v2 : Int32) (v3 : Int32) (v4 : Int32) (x : Ob) : Option (Int32 × Ob) :=
  px_let (v4 + (1) : Int32) (fun b192 =>
  k102 v1 v2 v3 b192 x)
def fX6_split_J135 (k102 : Int32 → Int32 → Int32 → Int32 → Ob → Option (Int32 × Ob)) (v1 : Int32) (v2 : Int32) (v3 : Int32) (v4 : Int32) (s0 : Int32) (x : Ob) : Option (Int32 × Ob) :=
  ix (((64) * v1) + v4) 512 (fun j149 =>
  px_let (ob_a x 7 j149 (vp_nar .boolean (0))) (fun x_149 =>
  ix (((64) * s0) + v4) 512 (fun j163 =>
  px_let (ob_a x_149 7 j163 (vp_nar .boolean (1))) (fun x_163 =>
  ix (((64) * s0) + v4) 512 (fun j177 =>
  px_let (ob_a x_163 5 j177 (-1)) (fun x_177 =>
  ix (((64) * s0) + v4) 512 (fun j191 =>
  px_let (ob_a x_177 6 j191 (-1)) (fun x_191 =>
  fX6_split_J192 (k102) v1 v2 v3 v4 x_191))))))))
def fX6_split_J352 (k208 : Int32 → Int32 → Int32 → Int32 → Ob → Option (Int32 × Ob)) (v1 : Int32) (v2 : Int32) (v3 : Int32) (v4 : Int32) (x : Ob) : Option (Int32 × Ob) :=
  px_let (v4 + (1) : Int32) (fun b352 =>
  k208 v1 v2 v3 b352 x)
def fX6_split_J226 (k208 : Int32 → Int32 → Int32 → Int32 → Ob → Option (Int32 × Ob)) (v1 : Int32) (v2 : Int32) (v3 : Int32) (v4 : Int32) (s0 : Int32) (x : Ob) : Option (Int32 × Ob) :=
  ix (((64) * s0) + v4) 512 (fun j240 =>
  (if (x.2 7 j240) = 0 then
    fX6_split_J352 (k208) v1 v2 v3 v4 x
  else
    ix s0 8 (fun j251 =>
    ix s0 8 (fun j254 =>
    px_let (ob_a x 8 j254 ((x.2 8 j251) + (1))) (fun x_254 =>
    ix v4 64 (fun j273 =>
    ix (((64) * s0) + v4) 512 (fun j274 =>
    px_let (ob_a x_254 4 j274 (x_254.2 18 j273)) (fun x_274 =>
    ix v4 64 (fun j281 =>
    (if 0 ≤ (x_274.2 18 j281) then
      ix v4 64 (fun j305 =>
      (if (x_274.2 18 j305) ≤ v4 then
        ix v4 64 (fun j347 =>
        ix (((64) * s0) + (x_274.2 18 j347)) 512 (fun j351 =>
        px_let (ob_a x_274 6 j351 v4) (fun x_351 =>
        fX6_split_J352 (k208) v1 v2 v3 v4 x_351)))
      else
        ix v4 64 (fun j324 =>
        ix (((64) * s0) + (x_274.2 18 j324)) 512 (fun j328 =>
        px_let (ob_a x_274 5 j328 v4) (fun x_328 =>
        fX6_split_J352 (k208) v1 v2 v3 v4 x_328)))))
    else
      ix s0 8 (fun j293 =>
      px_let (ob_a x_274 3 j293 v4) (fun x_293 =>
      fX6_split_J352 (k208) v1 v2 v3 v4 x_293))))))))))))
def fX6_split_J409 (v3 : Int32) (s0 : Int32) (s1 : Int32) (x : Ob) : Option (Int32 × Ob) :=
  ix s0 8 (fun j409 =>
  px_let (ob_a x 11 j409 s1) (fun x_409 =>
  some (v3, x_409)))
def fX6_split_J383 (v3 : Int32) (s0 : Int32) (s1 : Int32) (x : Ob) : Option (Int32 × Ob) :=
  ix s0 8 (fun j383 =>
  px_let (ob_a x 11 j383 s1) (fun x_383 =>
  ix v3 8 (fun j394 =>
  (if (x_383.2 2 j394) = (4) then
    ix v3 8 (fun j404 =>
    fX6_split_J409 v3 v3 ((x_383.2 8 j404)) x_383)
  else
    fX6_split_J409 v3 v3 (0) x_383))))
def fX6_split_J358 (v1 : Int32) (v3 : Int32) (x : Ob) : Option (Int32 × Ob) :=
  ix v1 8 (fun j368 =>
  (if (x.2 2 j368) = (4) then
    ix v1 8 (fun j378 =>
    fX6_split_J383 v3 v1 ((x.2 8 j378)) x)
  else
    fX6_split_J383 v3 v1 (0) x))
def fX6_split_L208 : Nat → Int32 → Int32 → Int32 → Int32 → Ob → Option (Int32 × Ob)
  | 0, _, _, _, _, _ => none
  | n + 1, v1, v2, v3, v4, x =>
  (if (64) ≤ v4 then
    fX6_split_J358 v1 v3 x
  else
    (if v2 ≤ v4 then
      fX6_split_J226 (fX6_split_L208 n) v1 v2 v3 v4 v3 x
    else
      fX6_split_J226 (fX6_split_L208 n) v1 v2 v3 v4 v1 x))
def fX6_split_J198 (v1 : Int32) (v2 : Int32) (v3 : Int32) (x : Ob) : Option (Int32 × Ob) :=
  ix v1 8 (fun j204 =>
  px_let (ob_a x 8 j204 (0)) (fun x_204 =>
  fX6_split_L208 FU v1 v2 v3 (0) x_204))
def fX6_split_L102 : Nat → Int32 → Int32 → Int32 → Int32 → Ob → Option (Int32 × Ob)
  | 0, _, _, _, _, _ => none
  | n + 1, v1, v2, v3, v4, x =>
  (if (64) ≤ v4 then
    fX6_split_J198 v1 v2 v3 x
  else
    ix (((64) * v1) + v4) 512 (fun j120 =>
    (if (x.2 7 j120) = 0 then
      fX6_split_J192 (fX6_split_L102 n) v1 v2 v3 v4 x
    else
      (if v2 ≤ v4 then
        fX6_split_J135 (fX6_split_L102 n) v1 v2 v3 v4 v3 x
      else
        fX6_split_J135 (fX6_split_L102 n) v1 v2 v3 v4 v1 x))))
def fX6_split_J92 (v1 : Int32) (v2 : Int32) (v3 : Int32) (x : Ob) : Option (Int32 × Ob) :=
  ix v1 8 (fun j98 =>
  px_let (ob_a x 3 j98 (-1)) (fun x_98 =>
  fX6_split_L102 FU v1 v2 v3 (0) x_98))
def fX6_split_L45 : Nat → Int32 → Int32 → Int32 → Int32 → Ob → Option (Int32 × Ob)
  | 0, _, _, _, _, _ => none
  | n + 1, v1, v2, v3, v4, x =>
  (if (64) ≤ v4 then
    fX6_split_J92 v1 v2 v3 x
  else
    ix (((64) * v1) + v4) 512 (fun j69 =>
    (if (x.2 7 j69) = 0 then
      fX6_split_J85 (fX6_split_L45 n) v1 v2 v3 v4 v4 (-1) x
    else
      Option.bind (fX6_nearest v1 v4 v2 x) (fun q78 =>
      fX6_split_J85 (fX6_split_L45 n) v1 v2 v3 v4 v4 q78 x))))
def fX6_split (p1 : Int32) (p2 : Int32) (x : Ob) : Option (Int32 × Ob) :=
  px_let (ob_i x 0 (0)) (fun x_2 =>
  Option.bind (fX6_isTree p1 x_2) (fun q7 =>
  (if q7 = 0 then
    some ((-1), x_2)
  else
    Option.bind (fX6_isKey p2) (fun q14 =>
    (if q14 = 0 then
      some ((-1), x_2)
    else
      (if (x_2.1 1) = (8) then
        some ((-1), x_2)
      else
        ix p1 8 (fun j37 =>
        Option.bind (fX6_newTree (x_2.2 2 j37) x_2) (fun q38 =>
        px_let (q38.1 : Int32) (fun b41 =>
        fX6_split_L45 FU p1 p2 b41 (0) q38.2)))))))))
abbrev rmX6_split : Room := { frames := 1, cells := 0, slots := 0, locals := 24 }
set_option maxHeartbeats 4000000 in
set_option maxRecDepth 100000 in
theorem ok_X6_split {l : Launch} {E : En} {o : Nat} {ad : (Nat → Nat)} {p1 : Int32} {p2 : Int32} {x : Ob} {r : Int32 × Ob} (hf : fX6_split p1 p2 x = some r) : CI l yX6_split wsX6_split (rmX6_split) [.ref o, .int p1, .int p2] E (w6 E o ad x) (w6 E o ad r.2) (r.1) := by
  refine xc_I (by decide) rfl (Nat.le_of_ble_eq_true rfl) [(0, .ref o), (1, .int p1), (2, .int p2)] rfl (fun p e s m below meth c A C hr => ?_)
  generalize ([.ref o, .int p1, .int p2] : List Value).toArray = args at C ⊢
  obtain ⟨Z, hZ⟩ : ∃ Z, Z = ZI E (w6 E o ad r.2) (r.1) A below args s 0 0 := ⟨_, rfl⟩
  rw [← hZ]
  have in6 : ∀ w ∈ wsX60, w ∈ wsX6_split := by decide +kernel
  have m7 : Cond.fieldLink RX6 7 "TurningTreesModel" "kind" "[I" ∈ wsX6_split := by decide +kernel
  have m13 : Cond.fieldLink RX6 13 "TurningTreesModel" "root" "[I" ∈ wsX6_split := by decide +kernel
  have m16 : Cond.fieldLink RX6 16 "TurningTreesModel" "above" "[I" ∈ wsX6_split := by decide +kernel
  have m19 : Cond.fieldLink RX6 19 "TurningTreesModel" "left" "[I" ∈ wsX6_split := by decide +kernel
  have m22 : Cond.fieldLink RX6 22 "TurningTreesModel" "right" "[I" ∈ wsX6_split := by decide +kernel
  have m25 : Cond.fieldLink RX6 25 "TurningTreesModel" "isIn" "[Z" ∈ wsX6_split := by decide +kernel
  have m29 : Cond.fieldLink RX6 29 "TurningTreesModel" "many" "[I" ∈ wsX6_split := by decide +kernel
  have m38 : Cond.fieldLink RX6 38 "TurningTreesModel" "most" "[I" ∈ wsX6_split := by decide +kernel
  have m50 : Cond.fieldLink RX6 50 "TurningTreesModel" "draft" "[I" ∈ wsX6_split := by decide +kernel
  have m77 : Cond.fieldLink RX6 77 "TurningTreesModel" "thrown" "I" ∈ wsX6_split := by decide +kernel
  have m81 : Cond.fieldLink RX6 81 "TurningTreesModel" "trees" "I" ∈ wsX6_split := by decide +kernel
  have hJ85 : ∀ (k45 : Int32 → Int32 → Int32 → Int32 → Ob → Option (Int32 × Ob)), (∀ (v1 : Int32), ∀ (v2 : Int32), ∀ (v3 : Int32), ∀ (v4 : Int32), ∀ (x : Ob), k45 v1 v2 v3 v4 x = some r → XW E p l e rmX6_split s m args below meth c Z A 0 0 (w6 E o ad x) 45 6 [(0, .ref o), (1, .int v1), (2, .int v2), (3, .int v3), (4, .int v4)] []) → ∀ (v1 : Int32), ∀ (v2 : Int32), ∀ (v3 : Int32), ∀ (v4 : Int32), ∀ (s0 : Int32), ∀ (s1 : Int32), ∀ (x : Ob), fX6_split_J85 k45 v1 v2 v3 v4 s0 s1 x = some r → XW E p l e rmX6_split s m args below meth c Z A 0 0 (w6 E o ad x) 85 6 [(0, .ref o), (1, .int v1), (2, .int v2), (3, .int v3), (4, .int v4)] [.int s1, .int s0, .ref (ad 18)] := by
    intro k45 hk45 v1 v2 v3 v4 s0 s1 x h
    rw [fX6_split_J85] at h
    obtain ⟨g85, h⟩ := px_x h
    refine px_n h (fun x_85 ex_85 h => ?_)
    refine xw_iast (w' := w6 E o ad x_85) C 14 rfl g85 (by rw [ex_85]; rfl) dX6_split_85 ?_
    refine px_n h (fun b86 eb86 h => ?_)
    refine xw_iinc (v := b86) C dX6_split_86 4 rfl eb86 (by decide) (lv' := [(4, .int b86), (0, .ref o), (1, .int v1), (2, .int v2), (3, .int v3)]) rfl ?_
    refine xw_goto C 45 dX6_split_89 (by decide) ?_
    refine xw_perm [1, 2, 3, 4, 0] rfl ?_
    exact hk45 _ _ _ _ _ h
  have hJ192 : ∀ (k102 : Int32 → Int32 → Int32 → Int32 → Ob → Option (Int32 × Ob)), (∀ (v1 : Int32), ∀ (v2 : Int32), ∀ (v3 : Int32), ∀ (v4 : Int32), ∀ (x : Ob), k102 v1 v2 v3 v4 x = some r → XW E p l e rmX6_split s m args below meth c Z A 0 0 (w6 E o ad x) 102 6 [(0, .ref o), (1, .int v1), (2, .int v2), (3, .int v3), (4, .int v4)] []) → ∀ (v1 : Int32), ∀ (v2 : Int32), ∀ (v3 : Int32), ∀ (v4 : Int32), ∀ (x : Ob), fX6_split_J192 k102 v1 v2 v3 v4 x = some r → XW E p l e rmX6_split s m args below meth c Z A 0 0 (w6 E o ad x) 192 6 [(0, .ref o), (1, .int v1), (2, .int v2), (3, .int v3), (4, .int v4)] [] := by
    intro k102 hk102 v1 v2 v3 v4 x h
    rw [fX6_split_J192] at h
    refine px_n h (fun b192 eb192 h => ?_)
    refine xw_iinc (v := b192) C dX6_split_192 4 rfl eb192 (by decide) (lv' := [(4, .int b192), (0, .ref o), (1, .int v1), (2, .int v2), (3, .int v3)]) rfl ?_
    refine xw_goto C 102 dX6_split_195 (by decide) ?_
    refine xw_perm [1, 2, 3, 4, 0] rfl ?_
    exact hk102 _ _ _ _ _ h
  have hJ135 : ∀ (k102 : Int32 → Int32 → Int32 → Int32 → Ob → Option (Int32 × Ob)), (∀ (v1 : Int32), ∀ (v2 : Int32), ∀ (v3 : Int32), ∀ (v4 : Int32), ∀ (x : Ob), k102 v1 v2 v3 v4 x = some r → XW E p l e rmX6_split s m args below meth c Z A 0 0 (w6 E o ad x) 102 6 [(0, .ref o), (1, .int v1), (2, .int v2), (3, .int v3), (4, .int v4)] []) → ∀ (v1 : Int32), ∀ (v2 : Int32), ∀ (v3 : Int32), ∀ (v4 : Int32), ∀ (s0 : Int32), ∀ (x : Ob), fX6_split_J135 k102 v1 v2 v3 v4 s0 x = some r → XW E p l e rmX6_split s m args below meth c Z A 0 0 (w6 E o ad x) 135 6 [(0, .ref o), (1, .int v1), (2, .int v2), (3, .int v3), (4, .int v4)] [.int s0] := by
    intro k102 hk102 v1 v2 v3 v4 s0 x h
    rw [fX6_split_J135] at h
    refine xw_istore C dX6_split_135 (by decide) (lv' := [(5, .int s0), (0, .ref o), (1, .int v1), (2, .int v2), (3, .int v3), (4, .int v4)]) rfl ?_
    refine xw_aload_n C dX6_split_137 rfl 1 rfl ?_
    refine xw_get C in6 0 rfl rfl 7 (by decide) m25 rfl rfl dX6_split_138 ?_
    refine xw_bipush C (64) dX6_split_141 (by decide) ?_
    refine xw_iload_n C dX6_split_143 rfl 2 rfl ?_
    refine xw_imul C dX6_split_144 ?_
    refine xw_iload C dX6_split_145 5 rfl ?_
    refine xw_iadd C dX6_split_147 ?_
    refine xw_iconst C (0) dX6_split_148 (by decide) ?_
    obtain ⟨g149, h⟩ := px_x h
    refine px_n h (fun x_149 ex_149 h => ?_)
    refine xw_zast (w' := w6 E o ad x_149) C 6 rfl g149 (by rw [ex_149]; rfl) dX6_split_149 ?_
    refine xw_aload_n C dX6_split_150 rfl 1 rfl ?_
    refine xw_get C in6 0 rfl rfl 7 (by decide) m25 rfl rfl dX6_split_151 ?_
    refine xw_bipush C (64) dX6_split_154 (by decide) ?_
    refine xw_iload C dX6_split_156 0 rfl ?_
    refine xw_imul C dX6_split_158 ?_
    refine xw_iload C dX6_split_159 5 rfl ?_
    refine xw_iadd C dX6_split_161 ?_
    refine xw_iconst C (1) dX6_split_162 (by decide) ?_
    obtain ⟨g163, h⟩ := px_x h
    refine px_n h (fun x_163 ex_163 h => ?_)
    refine xw_zast (w' := w6 E o ad x_163) C 6 rfl g163 (by rw [ex_163]; rfl) dX6_split_163 ?_
    refine xw_aload_n C dX6_split_164 rfl 1 rfl ?_
    refine xw_get C in6 0 rfl rfl 5 (by decide) m19 rfl rfl dX6_split_165 ?_
    refine xw_bipush C (64) dX6_split_168 (by decide) ?_
    refine xw_iload C dX6_split_170 0 rfl ?_
    refine xw_imul C dX6_split_172 ?_
    refine xw_iload C dX6_split_173 5 rfl ?_
    refine xw_iadd C dX6_split_175 ?_
    refine xw_iconst C (-1) dX6_split_176 (by decide) ?_
    obtain ⟨g177, h⟩ := px_x h
    refine px_n h (fun x_177 ex_177 h => ?_)
    refine xw_iast (w' := w6 E o ad x_177) C 4 rfl g177 (by rw [ex_177]; rfl) dX6_split_177 ?_
    refine xw_aload_n C dX6_split_178 rfl 1 rfl ?_
    refine xw_get C in6 0 rfl rfl 6 (by decide) m22 rfl rfl dX6_split_179 ?_
    refine xw_bipush C (64) dX6_split_182 (by decide) ?_
    refine xw_iload C dX6_split_184 0 rfl ?_
    refine xw_imul C dX6_split_186 ?_
    refine xw_iload C dX6_split_187 5 rfl ?_
    refine xw_iadd C dX6_split_189 ?_
    refine xw_iconst C (-1) dX6_split_190 (by decide) ?_
    obtain ⟨g191, h⟩ := px_x h
    refine px_n h (fun x_191 ex_191 h => ?_)
    refine xw_iast (w' := w6 E o ad x_191) C 5 rfl g191 (by rw [ex_191]; rfl) dX6_split_191 ?_
    refine xw_perm [1, 2, 3, 4, 5] rfl ?_
    exact hJ192 _ hk102 _ _ _ _ _ h
  have hJ352 : ∀ (k208 : Int32 → Int32 → Int32 → Int32 → Ob → Option (Int32 × Ob)), (∀ (v1 : Int32), ∀ (v2 : Int32), ∀ (v3 : Int32), ∀ (v4 : Int32), ∀ (x : Ob), k208 v1 v2 v3 v4 x = some r → XW E p l e rmX6_split s m args below meth c Z A 0 0 (w6 E o ad x) 208 6 [(0, .ref o), (1, .int v1), (2, .int v2), (3, .int v3), (4, .int v4)] []) → ∀ (v1 : Int32), ∀ (v2 : Int32), ∀ (v3 : Int32), ∀ (v4 : Int32), ∀ (x : Ob), fX6_split_J352 k208 v1 v2 v3 v4 x = some r → XW E p l e rmX6_split s m args below meth c Z A 0 0 (w6 E o ad x) 352 6 [(0, .ref o), (1, .int v1), (2, .int v2), (3, .int v3), (4, .int v4)] [] := by
    intro k208 hk208 v1 v2 v3 v4 x h
    rw [fX6_split_J352] at h
    refine px_n h (fun b352 eb352 h => ?_)
    refine xw_iinc (v := b352) C dX6_split_352 4 rfl eb352 (by decide) (lv' := [(4, .int b352), (0, .ref o), (1, .int v1), (2, .int v2), (3, .int v3)]) rfl ?_
    refine xw_goto C 208 dX6_split_355 (by decide) ?_
    refine xw_perm [1, 2, 3, 4, 0] rfl ?_
    exact hk208 _ _ _ _ _ h
  have hJ226 : ∀ (k208 : Int32 → Int32 → Int32 → Int32 → Ob → Option (Int32 × Ob)), (∀ (v1 : Int32), ∀ (v2 : Int32), ∀ (v3 : Int32), ∀ (v4 : Int32), ∀ (x : Ob), k208 v1 v2 v3 v4 x = some r → XW E p l e rmX6_split s m args below meth c Z A 0 0 (w6 E o ad x) 208 6 [(0, .ref o), (1, .int v1), (2, .int v2), (3, .int v3), (4, .int v4)] []) → ∀ (v1 : Int32), ∀ (v2 : Int32), ∀ (v3 : Int32), ∀ (v4 : Int32), ∀ (s0 : Int32), ∀ (x : Ob), fX6_split_J226 k208 v1 v2 v3 v4 s0 x = some r → XW E p l e rmX6_split s m args below meth c Z A 0 0 (w6 E o ad x) 226 6 [(0, .ref o), (1, .int v1), (2, .int v2), (3, .int v3), (4, .int v4)] [.int s0] := by
    intro k208 hk208 v1 v2 v3 v4 s0 x h
    rw [fX6_split_J226] at h
    refine xw_istore C dX6_split_226 (by decide) (lv' := [(5, .int s0), (0, .ref o), (1, .int v1), (2, .int v2), (3, .int v3), (4, .int v4)]) rfl ?_
    refine xw_aload_n C dX6_split_228 rfl 1 rfl ?_
    refine xw_get C in6 0 rfl rfl 7 (by decide) m25 rfl rfl dX6_split_229 ?_
    refine xw_bipush C (64) dX6_split_232 (by decide) ?_
    refine xw_iload C dX6_split_234 0 rfl ?_
    refine xw_imul C dX6_split_236 ?_
    refine xw_iload C dX6_split_237 5 rfl ?_
    refine xw_iadd C dX6_split_239 ?_
    obtain ⟨g240, h⟩ := px_x h
    refine xw_zald C 6 rfl g240 dX6_split_240 ?_
    refine xw_if_eq C 352 dX6_split_241 (by decide) (fun c241 => ?_) (fun c241 => ?_)
    · have h := px_t c241 h
      refine xw_perm [1, 2, 3, 4, 5] rfl ?_
      exact hJ352 _ hk208 _ _ _ _ _ h
    · have h := px_f c241 h
      refine xw_aload_n C dX6_split_244 rfl 1 rfl ?_
      refine xw_get C in6 0 rfl rfl 8 (by decide) m29 rfl rfl dX6_split_245 ?_
      refine xw_iload C dX6_split_248 0 rfl ?_
      refine xw_dup2 C dX6_split_250 rfl rfl ?_
      obtain ⟨g251, h⟩ := px_x h
      refine xw_iald C 7 rfl g251 dX6_split_251 ?_
      refine xw_iconst C (1) dX6_split_252 (by decide) ?_
      refine xw_iadd C dX6_split_253 ?_
      obtain ⟨g254, h⟩ := px_x h
      refine px_n h (fun x_254 ex_254 h => ?_)
      refine xw_iast (w' := w6 E o ad x_254) C 7 rfl g254 (by rw [ex_254]; rfl) dX6_split_254 ?_
      refine xw_aload_n C dX6_split_255 rfl 1 rfl ?_
      refine xw_get C in6 0 rfl rfl 4 (by decide) m16 rfl rfl dX6_split_256 ?_
      refine xw_bipush C (64) dX6_split_259 (by decide) ?_
      refine xw_iload C dX6_split_261 0 rfl ?_
      refine xw_imul C dX6_split_263 ?_
      refine xw_iload C dX6_split_264 5 rfl ?_
      refine xw_iadd C dX6_split_266 ?_
      refine xw_aload_n C dX6_split_267 rfl 1 rfl ?_
      refine xw_get C in6 0 rfl rfl 18 (by decide) m50 rfl rfl dX6_split_268 ?_
      refine xw_iload C dX6_split_271 5 rfl ?_
      obtain ⟨g273, h⟩ := px_x h
      refine xw_iald C 14 rfl g273 dX6_split_273 ?_
      obtain ⟨g274, h⟩ := px_x h
      refine px_n h (fun x_274 ex_274 h => ?_)
      refine xw_iast (w' := w6 E o ad x_274) C 3 rfl g274 (by rw [ex_274]; rfl) dX6_split_274 ?_
      refine xw_aload_n C dX6_split_275 rfl 1 rfl ?_
      refine xw_get C in6 0 rfl rfl 18 (by decide) m50 rfl rfl dX6_split_276 ?_
      refine xw_iload C dX6_split_279 5 rfl ?_
      obtain ⟨g281, h⟩ := px_x h
      refine xw_iald C 14 rfl g281 dX6_split_281 ?_
      refine xw_if_ge C 297 dX6_split_282 (by decide) (fun c282 => ?_) (fun c282 => ?_)
      · have h := px_t c282 h
        refine xw_iload C dX6_split_297 5 rfl ?_
        refine xw_aload_n C dX6_split_299 rfl 1 rfl ?_
        refine xw_get C in6 0 rfl rfl 18 (by decide) m50 rfl rfl dX6_split_300 ?_
        refine xw_iload C dX6_split_303 5 rfl ?_
        obtain ⟨g305, h⟩ := px_x h
        refine xw_iald C 14 rfl g305 dX6_split_305 ?_
        refine xw_icmp_ge C 332 dX6_split_306 (by decide) (fun c306 => ?_) (fun c306 => ?_)
        · have h := px_t c306 h
          refine xw_aload_n C dX6_split_332 rfl 1 rfl ?_
          refine xw_get C in6 0 rfl rfl 6 (by decide) m22 rfl rfl dX6_split_333 ?_
          refine xw_bipush C (64) dX6_split_336 (by decide) ?_
          refine xw_iload C dX6_split_338 0 rfl ?_
          refine xw_imul C dX6_split_340 ?_
          refine xw_aload_n C dX6_split_341 rfl 1 rfl ?_
          refine xw_get C in6 0 rfl rfl 18 (by decide) m50 rfl rfl dX6_split_342 ?_
          refine xw_iload C dX6_split_345 5 rfl ?_
          obtain ⟨g347, h⟩ := px_x h
          refine xw_iald C 14 rfl g347 dX6_split_347 ?_
          refine xw_iadd C dX6_split_348 ?_
          refine xw_iload C dX6_split_349 5 rfl ?_
          obtain ⟨g351, h⟩ := px_x h
          refine px_n h (fun x_351 ex_351 h => ?_)
          refine xw_iast (w' := w6 E o ad x_351) C 5 rfl g351 (by rw [ex_351]; rfl) dX6_split_351 ?_
          refine xw_perm [1, 2, 3, 4, 5] rfl ?_
          exact hJ352 _ hk208 _ _ _ _ _ h
        · have h := px_f c306 h
          refine xw_aload_n C dX6_split_309 rfl 1 rfl ?_
          refine xw_get C in6 0 rfl rfl 5 (by decide) m19 rfl rfl dX6_split_310 ?_
          refine xw_bipush C (64) dX6_split_313 (by decide) ?_
          refine xw_iload C dX6_split_315 0 rfl ?_
          refine xw_imul C dX6_split_317 ?_
          refine xw_aload_n C dX6_split_318 rfl 1 rfl ?_
          refine xw_get C in6 0 rfl rfl 18 (by decide) m50 rfl rfl dX6_split_319 ?_
          refine xw_iload C dX6_split_322 5 rfl ?_
          obtain ⟨g324, h⟩ := px_x h
          refine xw_iald C 14 rfl g324 dX6_split_324 ?_
          refine xw_iadd C dX6_split_325 ?_
          refine xw_iload C dX6_split_326 5 rfl ?_
          obtain ⟨g328, h⟩ := px_x h
          refine px_n h (fun x_328 ex_328 h => ?_)
          refine xw_iast (w' := w6 E o ad x_328) C 4 rfl g328 (by rw [ex_328]; rfl) dX6_split_328 ?_
          refine xw_goto C 352 dX6_split_329 (by decide) ?_
          refine xw_perm [1, 2, 3, 4, 5] rfl ?_
          exact hJ352 _ hk208 _ _ _ _ _ h
      · have h := px_f c282 h
        refine xw_aload_n C dX6_split_285 rfl 1 rfl ?_
        refine xw_get C in6 0 rfl rfl 3 (by decide) m13 rfl rfl dX6_split_286 ?_
        refine xw_iload C dX6_split_289 0 rfl ?_
        refine xw_iload C dX6_split_291 5 rfl ?_
        obtain ⟨g293, h⟩ := px_x h
        refine px_n h (fun x_293 ex_293 h => ?_)
        refine xw_iast (w' := w6 E o ad x_293) C 2 rfl g293 (by rw [ex_293]; rfl) dX6_split_293 ?_
        refine xw_goto C 352 dX6_split_294 (by decide) ?_
        refine xw_perm [1, 2, 3, 4, 5] rfl ?_
        exact hJ352 _ hk208 _ _ _ _ _ h
  have hJ409 : ∀ (v3 : Int32), ∀ (s0 : Int32), ∀ (s1 : Int32), ∀ (x : Ob), fX6_split_J409 v3 s0 s1 x = some r → XW E p l e rmX6_split s m args below meth c Z A 0 0 (w6 E o ad x) 409 6 [(3, .int v3)] [.int s1, .int s0, .ref (ad 11)] := by
    intro v3 s0 s1 x h
    rw [fX6_split_J409] at h
    obtain ⟨g409, h⟩ := px_x h
    refine px_n h (fun x_409 ex_409 h => ?_)
    refine xw_iast (w' := w6 E o ad x_409) C 10 rfl g409 (by rw [ex_409]; rfl) dX6_split_409 ?_
    refine xw_iload_n C dX6_split_410 rfl 0 rfl ?_
    cases h
    rw [hZ]
    exact xw_iret C hr dX6_split_411
  have hJ383 : ∀ (v3 : Int32), ∀ (s0 : Int32), ∀ (s1 : Int32), ∀ (x : Ob), fX6_split_J383 v3 s0 s1 x = some r → XW E p l e rmX6_split s m args below meth c Z A 0 0 (w6 E o ad x) 383 6 [(0, .ref o), (3, .int v3)] [.int s1, .int s0, .ref (ad 11)] := by
    intro v3 s0 s1 x h
    rw [fX6_split_J383] at h
    obtain ⟨g383, h⟩ := px_x h
    refine px_n h (fun x_383 ex_383 h => ?_)
    refine xw_iast (w' := w6 E o ad x_383) C 10 rfl g383 (by rw [ex_383]; rfl) dX6_split_383 ?_
    refine xw_aload_n C dX6_split_384 rfl 0 rfl ?_
    refine xw_get C in6 0 rfl rfl 11 (by decide) m38 rfl rfl dX6_split_385 ?_
    refine xw_iload_n C dX6_split_388 rfl 1 rfl ?_
    refine xw_aload_n C dX6_split_389 rfl 0 rfl ?_
    refine xw_get C in6 0 rfl rfl 2 (by decide) m7 rfl rfl dX6_split_390 ?_
    refine xw_iload_n C dX6_split_393 rfl 1 rfl ?_
    obtain ⟨g394, h⟩ := px_x h
    refine xw_iald C 1 rfl g394 dX6_split_394 ?_
    refine xw_iconst C (4) dX6_split_395 (by decide) ?_
    refine xw_icmp_ne C 408 dX6_split_396 (by decide) (fun c396 => ?_) (fun c396 => ?_)
    · have h := px_f c396 h
      refine xw_iconst C (0) dX6_split_408 (by decide) ?_
      refine xw_perm [1] rfl ?_
      exact hJ409 _ _ _ _ h
    · have h := px_t c396 h
      refine xw_aload_n C dX6_split_399 rfl 0 rfl ?_
      refine xw_get C in6 0 rfl rfl 8 (by decide) m29 rfl rfl dX6_split_400 ?_
      refine xw_iload_n C dX6_split_403 rfl 1 rfl ?_
      obtain ⟨g404, h⟩ := px_x h
      refine xw_iald C 7 rfl g404 dX6_split_404 ?_
      refine xw_goto C 409 dX6_split_405 (by decide) ?_
      refine xw_perm [1] rfl ?_
      exact hJ409 _ _ _ _ h
  have hJ358 : ∀ (v1 : Int32), ∀ (v3 : Int32), ∀ (x : Ob), fX6_split_J358 v1 v3 x = some r → XW E p l e rmX6_split s m args below meth c Z A 0 0 (w6 E o ad x) 358 6 [(0, .ref o), (1, .int v1), (3, .int v3)] [] := by
    intro v1 v3 x h
    rw [fX6_split_J358] at h
    refine xw_aload_n C dX6_split_358 rfl 0 rfl ?_
    refine xw_get C in6 0 rfl rfl 11 (by decide) m38 rfl rfl dX6_split_359 ?_
    refine xw_iload_n C dX6_split_362 rfl 1 rfl ?_
    refine xw_aload_n C dX6_split_363 rfl 0 rfl ?_
    refine xw_get C in6 0 rfl rfl 2 (by decide) m7 rfl rfl dX6_split_364 ?_
    refine xw_iload_n C dX6_split_367 rfl 1 rfl ?_
    obtain ⟨g368, h⟩ := px_x h
    refine xw_iald C 1 rfl g368 dX6_split_368 ?_
    refine xw_iconst C (4) dX6_split_369 (by decide) ?_
    refine xw_icmp_ne C 382 dX6_split_370 (by decide) (fun c370 => ?_) (fun c370 => ?_)
    · have h := px_f c370 h
      refine xw_iconst C (0) dX6_split_382 (by decide) ?_
      refine xw_perm [0, 2] rfl ?_
      exact hJ383 _ _ _ _ h
    · have h := px_t c370 h
      refine xw_aload_n C dX6_split_373 rfl 0 rfl ?_
      refine xw_get C in6 0 rfl rfl 8 (by decide) m29 rfl rfl dX6_split_374 ?_
      refine xw_iload_n C dX6_split_377 rfl 1 rfl ?_
      obtain ⟨g378, h⟩ := px_x h
      refine xw_iald C 7 rfl g378 dX6_split_378 ?_
      refine xw_goto C 383 dX6_split_379 (by decide) ?_
      refine xw_perm [0, 2] rfl ?_
      exact hJ383 _ _ _ _ h
  have hL208 : ∀ n : Nat, ∀ (v1 : Int32), ∀ (v2 : Int32), ∀ (v3 : Int32), ∀ (v4 : Int32), ∀ (x : Ob), fX6_split_L208 n v1 v2 v3 v4 x = some r → XW E p l e rmX6_split s m args below meth c Z A 0 0 (w6 E o ad x) 208 6 [(0, .ref o), (1, .int v1), (2, .int v2), (3, .int v3), (4, .int v4)] [] := by
    intro n
    induction n with
    | zero =>
      intro v1 v2 v3 v4 x h
      rw [fX6_split_L208] at h
      cases h
    | succ n ih =>
      intro v1 v2 v3 v4 x h
      rw [fX6_split_L208] at h
      refine xw_iload C dX6_split_208 4 rfl ?_
      refine xw_bipush C (64) dX6_split_210 (by decide) ?_
      refine xw_icmp_ge C 358 dX6_split_212 (by decide) (fun c212 => ?_) (fun c212 => ?_)
      · have h := px_t c212 h
        refine xw_perm [0, 1, 3] rfl ?_
        exact hJ358 _ _ _ h
      · have h := px_f c212 h
        refine xw_iload C dX6_split_215 4 rfl ?_
        refine xw_iload_n C dX6_split_217 rfl 2 rfl ?_
        refine xw_icmp_ge C 225 dX6_split_218 (by decide) (fun c218 => ?_) (fun c218 => ?_)
        · have h := px_t c218 h
          refine xw_iload_n C dX6_split_225 rfl 3 rfl ?_
          exact hJ226 _ ih _ _ _ _ _ _ h
        · have h := px_f c218 h
          refine xw_iload_n C dX6_split_221 rfl 1 rfl ?_
          refine xw_goto C 226 dX6_split_222 (by decide) ?_
          exact hJ226 _ ih _ _ _ _ _ _ h
  have hJ198 : ∀ (v1 : Int32), ∀ (v2 : Int32), ∀ (v3 : Int32), ∀ (x : Ob), fX6_split_J198 v1 v2 v3 x = some r → XW E p l e rmX6_split s m args below meth c Z A 0 0 (w6 E o ad x) 198 6 [(0, .ref o), (1, .int v1), (2, .int v2), (3, .int v3)] [] := by
    intro v1 v2 v3 x h
    rw [fX6_split_J198] at h
    refine xw_aload_n C dX6_split_198 rfl 0 rfl ?_
    refine xw_get C in6 0 rfl rfl 8 (by decide) m29 rfl rfl dX6_split_199 ?_
    refine xw_iload_n C dX6_split_202 rfl 1 rfl ?_
    refine xw_iconst C (0) dX6_split_203 (by decide) ?_
    obtain ⟨g204, h⟩ := px_x h
    refine px_n h (fun x_204 ex_204 h => ?_)
    refine xw_iast (w' := w6 E o ad x_204) C 7 rfl g204 (by rw [ex_204]; rfl) dX6_split_204 ?_
    refine xw_iconst C (0) dX6_split_205 (by decide) ?_
    refine xw_istore C dX6_split_206 (by decide) (lv' := [(4, .int (0)), (0, .ref o), (1, .int v1), (2, .int v2), (3, .int v3)]) rfl ?_
    refine xw_perm [1, 2, 3, 4, 0] rfl ?_
    exact hL208 _ _ _ _ _ _ h
  have hL102 : ∀ n : Nat, ∀ (v1 : Int32), ∀ (v2 : Int32), ∀ (v3 : Int32), ∀ (v4 : Int32), ∀ (x : Ob), fX6_split_L102 n v1 v2 v3 v4 x = some r → XW E p l e rmX6_split s m args below meth c Z A 0 0 (w6 E o ad x) 102 6 [(0, .ref o), (1, .int v1), (2, .int v2), (3, .int v3), (4, .int v4)] [] := by
    intro n
    induction n with
    | zero =>
      intro v1 v2 v3 v4 x h
      rw [fX6_split_L102] at h
      cases h
    | succ n ih =>
      intro v1 v2 v3 v4 x h
      rw [fX6_split_L102] at h
      refine xw_iload C dX6_split_102 4 rfl ?_
      refine xw_bipush C (64) dX6_split_104 (by decide) ?_
      refine xw_icmp_ge C 198 dX6_split_106 (by decide) (fun c106 => ?_) (fun c106 => ?_)
      · have h := px_t c106 h
        refine xw_perm [0, 1, 2, 3] rfl ?_
        exact hJ198 _ _ _ _ h
      · have h := px_f c106 h
        refine xw_aload_n C dX6_split_109 rfl 0 rfl ?_
        refine xw_get C in6 0 rfl rfl 7 (by decide) m25 rfl rfl dX6_split_110 ?_
        refine xw_bipush C (64) dX6_split_113 (by decide) ?_
        refine xw_iload_n C dX6_split_115 rfl 1 rfl ?_
        refine xw_imul C dX6_split_116 ?_
        refine xw_iload C dX6_split_117 4 rfl ?_
        refine xw_iadd C dX6_split_119 ?_
        obtain ⟨g120, h⟩ := px_x h
        refine xw_zald C 6 rfl g120 dX6_split_120 ?_
        refine xw_if_eq C 192 dX6_split_121 (by decide) (fun c121 => ?_) (fun c121 => ?_)
        · have h := px_t c121 h
          exact hJ192 _ ih _ _ _ _ _ h
        · have h := px_f c121 h
          refine xw_iload C dX6_split_124 4 rfl ?_
          refine xw_iload_n C dX6_split_126 rfl 2 rfl ?_
          refine xw_icmp_ge C 134 dX6_split_127 (by decide) (fun c127 => ?_) (fun c127 => ?_)
          · have h := px_t c127 h
            refine xw_iload_n C dX6_split_134 rfl 3 rfl ?_
            exact hJ135 _ ih _ _ _ _ _ _ h
          · have h := px_f c127 h
            refine xw_iload_n C dX6_split_130 rfl 1 rfl ?_
            refine xw_goto C 135 dX6_split_131 (by decide) ?_
            exact hJ135 _ ih _ _ _ _ _ _ h
  have hJ92 : ∀ (v1 : Int32), ∀ (v2 : Int32), ∀ (v3 : Int32), ∀ (x : Ob), fX6_split_J92 v1 v2 v3 x = some r → XW E p l e rmX6_split s m args below meth c Z A 0 0 (w6 E o ad x) 92 6 [(0, .ref o), (1, .int v1), (2, .int v2), (3, .int v3)] [] := by
    intro v1 v2 v3 x h
    rw [fX6_split_J92] at h
    refine xw_aload_n C dX6_split_92 rfl 0 rfl ?_
    refine xw_get C in6 0 rfl rfl 3 (by decide) m13 rfl rfl dX6_split_93 ?_
    refine xw_iload_n C dX6_split_96 rfl 1 rfl ?_
    refine xw_iconst C (-1) dX6_split_97 (by decide) ?_
    obtain ⟨g98, h⟩ := px_x h
    refine px_n h (fun x_98 ex_98 h => ?_)
    refine xw_iast (w' := w6 E o ad x_98) C 2 rfl g98 (by rw [ex_98]; rfl) dX6_split_98 ?_
    refine xw_iconst C (0) dX6_split_99 (by decide) ?_
    refine xw_istore C dX6_split_100 (by decide) (lv' := [(4, .int (0)), (0, .ref o), (1, .int v1), (2, .int v2), (3, .int v3)]) rfl ?_
    refine xw_perm [1, 2, 3, 4, 0] rfl ?_
    exact hL102 _ _ _ _ _ _ h
  have hL45 : ∀ n : Nat, ∀ (v1 : Int32), ∀ (v2 : Int32), ∀ (v3 : Int32), ∀ (v4 : Int32), ∀ (x : Ob), fX6_split_L45 n v1 v2 v3 v4 x = some r → XW E p l e rmX6_split s m args below meth c Z A 0 0 (w6 E o ad x) 45 6 [(0, .ref o), (1, .int v1), (2, .int v2), (3, .int v3), (4, .int v4)] [] := by
    intro n
    induction n with
    | zero =>
      intro v1 v2 v3 v4 x h
      rw [fX6_split_L45] at h
      cases h
    | succ n ih =>
      intro v1 v2 v3 v4 x h
      rw [fX6_split_L45] at h
      refine xw_iload C dX6_split_45 4 rfl ?_
      refine xw_bipush C (64) dX6_split_47 (by decide) ?_
      refine xw_icmp_ge C 92 dX6_split_49 (by decide) (fun c49 => ?_) (fun c49 => ?_)
      · have h := px_t c49 h
        refine xw_perm [0, 1, 2, 3] rfl ?_
        exact hJ92 _ _ _ _ h
      · have h := px_f c49 h
        refine xw_aload_n C dX6_split_52 rfl 0 rfl ?_
        refine xw_get C in6 0 rfl rfl 18 (by decide) m50 rfl rfl dX6_split_53 ?_
        refine xw_iload C dX6_split_56 4 rfl ?_
        refine xw_aload_n C dX6_split_58 rfl 0 rfl ?_
        refine xw_get C in6 0 rfl rfl 7 (by decide) m25 rfl rfl dX6_split_59 ?_
        refine xw_bipush C (64) dX6_split_62 (by decide) ?_
        refine xw_iload_n C dX6_split_64 rfl 1 rfl ?_
        refine xw_imul C dX6_split_65 ?_
        refine xw_iload C dX6_split_66 4 rfl ?_
        refine xw_iadd C dX6_split_68 ?_
        obtain ⟨g69, h⟩ := px_x h
        refine xw_zald C 6 rfl g69 dX6_split_69 ?_
        refine xw_if_eq C 84 dX6_split_70 (by decide) (fun c70 => ?_) (fun c70 => ?_)
        · have h := px_t c70 h
          refine xw_iconst C (-1) dX6_split_84 (by decide) ?_
          exact hJ85 _ ih _ _ _ _ _ _ _ h
        · have h := px_f c70 h
          refine xw_aload_n C dX6_split_73 rfl 0 rfl ?_
          refine xw_iload_n C dX6_split_74 rfl 1 rfl ?_
          refine xw_iload C dX6_split_75 4 rfl ?_
          refine xw_iload_n C dX6_split_77 rfl 2 rfl ?_
          obtain ⟨q78, eq78, h⟩ := px_b h
          refine xw_callVI (w' := w6 E o ad x) (u := []) (v := []) C (ok_X6_nearest (o := o) (ad := ad) (x := x) eq78) 3 gX6_split_X6_nearest rfl ⟨rfl, rfl⟩ (by decide +kernel) ⟨Nat.le_of_ble_eq_true rfl, Nat.le_of_ble_eq_true rfl⟩ 0 6 rfl rfl rfl (Nat.le_of_ble_eq_true rfl) ⟨Nat.zero_le _, Nat.zero_le _⟩ rfl xe0 xe0.symm dX6_split_78 ?_
          refine xw_goto C 85 dX6_split_81 (by decide) ?_
          exact hJ85 _ ih _ _ _ _ _ _ _ h
  rw [fX6_split] at hf
  have h := hf
  refine xw_aload_n C dX6_split_0 rfl 0 rfl ?_
  refine xw_iconst C (0) dX6_split_1 (by decide) ?_
  refine px_n h (fun x_2 ex_2 h => ?_)
  refine xw_put (w' := w6 E o ad x_2) C in6 tyX6 tyX6_ok nmX6 0 rfl rfl 0 (by decide) m77 rfl rfl rfl (Nat.le_of_ble_eq_true rfl) (by rw [ex_2]; rfl) dX6_split_2 ?_
  refine xw_aload_n C dX6_split_5 rfl 0 rfl ?_
  refine xw_iload_n C dX6_split_6 rfl 1 rfl ?_
  obtain ⟨q7, eq7, h⟩ := px_b h
  refine xw_callVI (w' := w6 E o ad x_2) (u := []) (v := []) C (ok_X6_isTree (o := o) (ad := ad) (x := x_2) eq7) 1 gX6_split_X6_isTree rfl ⟨rfl, rfl⟩ (by decide +kernel) ⟨Nat.le_of_ble_eq_true rfl, Nat.le_of_ble_eq_true rfl⟩ 0 6 rfl rfl rfl (Nat.le_of_ble_eq_true rfl) ⟨Nat.zero_le _, Nat.zero_le _⟩ rfl xe0 xe0.symm dX6_split_7 ?_
  refine xw_if_eq C 29 dX6_split_10 (by decide) (fun c10 => ?_) (fun c10 => ?_)
  · have h := px_t c10 h
    refine xw_iconst C (-1) dX6_split_29 (by decide) ?_
    cases h
    rw [hZ]
    exact xw_iret C hr dX6_split_30
  · have h := px_f c10 h
    refine xw_iload_n C dX6_split_13 rfl 2 rfl ?_
    obtain ⟨q14, eq14, h⟩ := px_b h
    refine xw_callSI (w' := w6 E o ad x_2) (u := []) (v := w6 E o ad x_2) C (ok_X6_isKey  eq14) 1 gX6_split_X6_isKey rfl ⟨rfl, rfl⟩ (by decide +kernel) ⟨Nat.le_of_ble_eq_true rfl, Nat.le_of_ble_eq_true rfl⟩ rfl (Nat.le_of_ble_eq_true rfl) ⟨Nat.zero_le _, Nat.zero_le _⟩ rfl rfl rfl dX6_split_14 ?_
    refine xw_if_eq C 29 dX6_split_17 (by decide) (fun c17 => ?_) (fun c17 => ?_)
    · have h := px_t c17 h
      refine xw_iconst C (-1) dX6_split_29 (by decide) ?_
      cases h
      rw [hZ]
      exact xw_iret C hr dX6_split_30
    · have h := px_f c17 h
      refine xw_aload_n C dX6_split_20 rfl 0 rfl ?_
      refine xw_get C in6 0 rfl rfl 1 (by decide) m81 rfl rfl dX6_split_21 ?_
      refine xw_bipush C (8) dX6_split_24 (by decide) ?_
      refine xw_icmp_ne C 31 dX6_split_26 (by decide) (fun c26 => ?_) (fun c26 => ?_)
      · have h := px_f c26 h
        refine xw_aload_n C dX6_split_31 rfl 0 rfl ?_
        refine xw_aload_n C dX6_split_32 rfl 0 rfl ?_
        refine xw_get C in6 0 rfl rfl 2 (by decide) m7 rfl rfl dX6_split_33 ?_
        refine xw_iload_n C dX6_split_36 rfl 1 rfl ?_
        obtain ⟨g37, h⟩ := px_x h
        refine xw_iald C 1 rfl g37 dX6_split_37 ?_
        obtain ⟨q38, eq38, h⟩ := px_b h
        refine xw_callVI (w' := w6 E o ad q38.2) (u := []) (v := []) C (ok_X6_newTree (o := o) (ad := ad) (x := x_2) eq38) 1 gX6_split_X6_newTree rfl ⟨rfl, rfl⟩ (by decide +kernel) ⟨Nat.le_of_ble_eq_true rfl, Nat.le_of_ble_eq_true rfl⟩ 0 6 rfl rfl rfl (Nat.le_of_ble_eq_true rfl) ⟨Nat.zero_le _, Nat.zero_le _⟩ rfl xe0 xe0.symm dX6_split_38 ?_
        refine xw_topi (fun b41 eb41 => ?_)
        have h := px_v h b41 eb41
        refine xw_istore_n C dX6_split_41 rfl (by decide) (lv' := [(3, .int b41), (0, .ref o), (1, .int p1), (2, .int p2)]) rfl ?_
        refine xw_iconst C (0) dX6_split_42 (by decide) ?_
        refine xw_istore C dX6_split_43 (by decide) (lv' := [(4, .int (0)), (3, .int b41), (0, .ref o), (1, .int p1), (2, .int p2)]) rfl ?_
        refine xw_perm [2, 3, 4, 1, 0] rfl ?_
        exact hL45 _ _ _ _ _ _ h
      · have h := px_t c26 h
        refine xw_iconst C (-1) dX6_split_29 (by decide) ?_
        cases h
        rw [hZ]
        exact xw_iret C hr dX6_split_30
def fX6_greatest_L7 : Nat → Int32 → Int32 → Ob → Option (Int32)
  | 0, _, _, _ => none
  | n + 1, v1, v2, x =>
  (if v2 < 0 then
    some v2
  else
    ix (((64) * v1) + v2) 512 (fun j21 =>
    (if (x.2 6 j21) < 0 then
      some v2
    else
      ix (((64) * v1) + v2) 512 (fun j35 =>
      px_let ((x.2 6 j35) : Int32) (fun b36 =>
      fX6_greatest_L7 n v1 b36 x)))))
def fX6_greatest (p1 : Int32) (x : Ob) : Option (Int32) :=
  ix p1 8 (fun j5 =>
  px_let ((x.2 3 j5) : Int32) (fun b6 =>
  fX6_greatest_L7 FU p1 b6 x))
abbrev rmX6_greatest : Room := { frames := 0, cells := 0, slots := 0, locals := 0 }
set_option maxHeartbeats 4000000 in
set_option maxRecDepth 100000 in
theorem ok_X6_greatest {l : Launch} {E : En} {o : Nat} {ad : (Nat → Nat)} {p1 : Int32} {x : Ob} {r : Int32} (hf : fX6_greatest p1 x = some r) : CI l yX6_greatest wsX6_greatest (rmX6_greatest) [.ref o, .int p1] E (w6 E o ad x) (w6 E o ad x) (r) := by
  refine xc_I (by decide) rfl (Nat.le_of_ble_eq_true rfl) [(0, .ref o), (1, .int p1)] rfl (fun p e s m below meth c A C hr => ?_)
  generalize ([.ref o, .int p1] : List Value).toArray = args at C ⊢
  obtain ⟨Z, hZ⟩ : ∃ Z, Z = ZI E (w6 E o ad x) (r) A below args s 0 0 := ⟨_, rfl⟩
  rw [← hZ]
  have in6 : ∀ w ∈ wsX60, w ∈ wsX6_greatest := by decide +kernel
  have m13 : Cond.fieldLink RX6 13 "TurningTreesModel" "root" "[I" ∈ wsX6_greatest := by decide +kernel
  have m22 : Cond.fieldLink RX6 22 "TurningTreesModel" "right" "[I" ∈ wsX6_greatest := by decide +kernel
  have hL7 : ∀ n : Nat, ∀ (v1 : Int32), ∀ (v2 : Int32), fX6_greatest_L7 n v1 v2 x = some r → XW E p l e rmX6_greatest s m args below meth c Z A 0 0 (w6 E o ad x) 7 3 [(0, .ref o), (1, .int v1), (2, .int v2)] [] := by
    intro n
    induction n with
    | zero =>
      intro v1 v2 h
      rw [fX6_greatest_L7] at h
      cases h
    | succ n ih =>
      intro v1 v2 h
      rw [fX6_greatest_L7] at h
      refine xw_iload_n C dX6_greatest_7 rfl 2 rfl ?_
      refine xw_if_lt C 40 dX6_greatest_8 (by decide) (fun c8 => ?_) (fun c8 => ?_)
      · have h := px_t c8 h
        refine xw_iload_n C dX6_greatest_40 rfl 2 rfl ?_
        cases h
        rw [hZ]
        exact xw_iret C hr dX6_greatest_41
      · have h := px_f c8 h
        refine xw_aload_n C dX6_greatest_11 rfl 0 rfl ?_
        refine xw_get C in6 0 rfl rfl 6 (by decide) m22 rfl rfl dX6_greatest_12 ?_
        refine xw_bipush C (64) dX6_greatest_15 (by decide) ?_
        refine xw_iload_n C dX6_greatest_17 rfl 1 rfl ?_
        refine xw_imul C dX6_greatest_18 ?_
        refine xw_iload_n C dX6_greatest_19 rfl 2 rfl ?_
        refine xw_iadd C dX6_greatest_20 ?_
        obtain ⟨g21, h⟩ := px_x h
        refine xw_iald C 5 rfl g21 dX6_greatest_21 ?_
        refine xw_if_lt C 40 dX6_greatest_22 (by decide) (fun c22 => ?_) (fun c22 => ?_)
        · have h := px_t c22 h
          refine xw_iload_n C dX6_greatest_40 rfl 2 rfl ?_
          cases h
          rw [hZ]
          exact xw_iret C hr dX6_greatest_41
        · have h := px_f c22 h
          refine xw_aload_n C dX6_greatest_25 rfl 0 rfl ?_
          refine xw_get C in6 0 rfl rfl 6 (by decide) m22 rfl rfl dX6_greatest_26 ?_
          refine xw_bipush C (64) dX6_greatest_29 (by decide) ?_
          refine xw_iload_n C dX6_greatest_31 rfl 1 rfl ?_
          refine xw_imul C dX6_greatest_32 ?_
          refine xw_iload_n C dX6_greatest_33 rfl 2 rfl ?_
          refine xw_iadd C dX6_greatest_34 ?_
          obtain ⟨g35, h⟩ := px_x h
          refine xw_iald C 5 rfl g35 dX6_greatest_35 ?_
          refine xw_topi (fun b36 eb36 => ?_)
          have h := px_v h b36 eb36
          refine xw_istore_n C dX6_greatest_36 rfl (by decide) (lv' := [(2, .int b36), (0, .ref o), (1, .int v1)]) rfl ?_
          refine xw_goto C 7 dX6_greatest_37 (by decide) ?_
          refine xw_perm [1, 2, 0] rfl ?_
          exact ih _ _ h
  rw [fX6_greatest] at hf
  have h := hf
  refine xw_aload_n C dX6_greatest_0 rfl 0 rfl ?_
  refine xw_get C in6 0 rfl rfl 3 (by decide) m13 rfl rfl dX6_greatest_1 ?_
  refine xw_iload_n C dX6_greatest_4 rfl 1 rfl ?_
  obtain ⟨g5, h⟩ := px_x h
  refine xw_iald C 2 rfl g5 dX6_greatest_5 ?_
  refine xw_topi (fun b6 eb6 => ?_)
  have h := px_v h b6 eb6
  refine xw_istore_n C dX6_greatest_6 rfl (by decide) (lv' := [(2, .int b6), (0, .ref o), (1, .int p1)]) rfl ?_
  refine xw_perm [1, 2, 0] rfl ?_
  exact hL7 _ _ _ h
def fX6_smallest_L7 : Nat → Int32 → Int32 → Ob → Option (Int32)
  | 0, _, _, _ => none
  | n + 1, v1, v2, x =>
  (if v2 < 0 then
    some v2
  else
    ix (((64) * v1) + v2) 512 (fun j21 =>
    (if (x.2 5 j21) < 0 then
      some v2
    else
      ix (((64) * v1) + v2) 512 (fun j35 =>
      px_let ((x.2 5 j35) : Int32) (fun b36 =>
      fX6_smallest_L7 n v1 b36 x)))))
def fX6_smallest (p1 : Int32) (x : Ob) : Option (Int32) :=
  ix p1 8 (fun j5 =>
  px_let ((x.2 3 j5) : Int32) (fun b6 =>
  fX6_smallest_L7 FU p1 b6 x))
abbrev rmX6_smallest : Room := { frames := 0, cells := 0, slots := 0, locals := 0 }
set_option maxHeartbeats 4000000 in
set_option maxRecDepth 100000 in
theorem ok_X6_smallest {l : Launch} {E : En} {o : Nat} {ad : (Nat → Nat)} {p1 : Int32} {x : Ob} {r : Int32} (hf : fX6_smallest p1 x = some r) : CI l yX6_smallest wsX6_smallest (rmX6_smallest) [.ref o, .int p1] E (w6 E o ad x) (w6 E o ad x) (r) := by
  refine xc_I (by decide) rfl (Nat.le_of_ble_eq_true rfl) [(0, .ref o), (1, .int p1)] rfl (fun p e s m below meth c A C hr => ?_)
  generalize ([.ref o, .int p1] : List Value).toArray = args at C ⊢
  obtain ⟨Z, hZ⟩ : ∃ Z, Z = ZI E (w6 E o ad x) (r) A below args s 0 0 := ⟨_, rfl⟩
  rw [← hZ]
  have in6 : ∀ w ∈ wsX60, w ∈ wsX6_smallest := by decide +kernel
  have m13 : Cond.fieldLink RX6 13 "TurningTreesModel" "root" "[I" ∈ wsX6_smallest := by decide +kernel
  have m19 : Cond.fieldLink RX6 19 "TurningTreesModel" "left" "[I" ∈ wsX6_smallest := by decide +kernel
  have hL7 : ∀ n : Nat, ∀ (v1 : Int32), ∀ (v2 : Int32), fX6_smallest_L7 n v1 v2 x = some r → XW E p l e rmX6_smallest s m args below meth c Z A 0 0 (w6 E o ad x) 7 3 [(0, .ref o), (1, .int v1), (2, .int v2)] [] := by
    intro n
    induction n with
    | zero =>
      intro v1 v2 h
      rw [fX6_smallest_L7] at h
      cases h
    | succ n ih =>
      intro v1 v2 h
      rw [fX6_smallest_L7] at h
      refine xw_iload_n C dX6_smallest_7 rfl 2 rfl ?_
      refine xw_if_lt C 40 dX6_smallest_8 (by decide) (fun c8 => ?_) (fun c8 => ?_)
      · have h := px_t c8 h
        refine xw_iload_n C dX6_smallest_40 rfl 2 rfl ?_
        cases h
        rw [hZ]
        exact xw_iret C hr dX6_smallest_41
      · have h := px_f c8 h
        refine xw_aload_n C dX6_smallest_11 rfl 0 rfl ?_
        refine xw_get C in6 0 rfl rfl 5 (by decide) m19 rfl rfl dX6_smallest_12 ?_
        refine xw_bipush C (64) dX6_smallest_15 (by decide) ?_
        refine xw_iload_n C dX6_smallest_17 rfl 1 rfl ?_
        refine xw_imul C dX6_smallest_18 ?_
        refine xw_iload_n C dX6_smallest_19 rfl 2 rfl ?_
        refine xw_iadd C dX6_smallest_20 ?_
        obtain ⟨g21, h⟩ := px_x h
        refine xw_iald C 4 rfl g21 dX6_smallest_21 ?_
        refine xw_if_lt C 40 dX6_smallest_22 (by decide) (fun c22 => ?_) (fun c22 => ?_)
        · have h := px_t c22 h
          refine xw_iload_n C dX6_smallest_40 rfl 2 rfl ?_
          cases h
          rw [hZ]
          exact xw_iret C hr dX6_smallest_41
        · have h := px_f c22 h
          refine xw_aload_n C dX6_smallest_25 rfl 0 rfl ?_
          refine xw_get C in6 0 rfl rfl 5 (by decide) m19 rfl rfl dX6_smallest_26 ?_
          refine xw_bipush C (64) dX6_smallest_29 (by decide) ?_
          refine xw_iload_n C dX6_smallest_31 rfl 1 rfl ?_
          refine xw_imul C dX6_smallest_32 ?_
          refine xw_iload_n C dX6_smallest_33 rfl 2 rfl ?_
          refine xw_iadd C dX6_smallest_34 ?_
          obtain ⟨g35, h⟩ := px_x h
          refine xw_iald C 4 rfl g35 dX6_smallest_35 ?_
          refine xw_topi (fun b36 eb36 => ?_)
          have h := px_v h b36 eb36
          refine xw_istore_n C dX6_smallest_36 rfl (by decide) (lv' := [(2, .int b36), (0, .ref o), (1, .int v1)]) rfl ?_
          refine xw_goto C 7 dX6_smallest_37 (by decide) ?_
          refine xw_perm [1, 2, 0] rfl ?_
          exact ih _ _ h
  rw [fX6_smallest] at hf
  have h := hf
  refine xw_aload_n C dX6_smallest_0 rfl 0 rfl ?_
  refine xw_get C in6 0 rfl rfl 3 (by decide) m13 rfl rfl dX6_smallest_1 ?_
  refine xw_iload_n C dX6_smallest_4 rfl 1 rfl ?_
  obtain ⟨g5, h⟩ := px_x h
  refine xw_iald C 2 rfl g5 dX6_smallest_5 ?_
  refine xw_topi (fun b6 eb6 => ?_)
  have h := px_v h b6 eb6
  refine xw_istore_n C dX6_smallest_6 rfl (by decide) (lv' := [(2, .int b6), (0, .ref o), (1, .int p1)]) rfl ?_
  refine xw_perm [1, 2, 0] rfl ?_
  exact hL7 _ _ _ h
def fX6_heaps_J8 (v2 : Int32) (v3 : Int32) (x : Ob) : Option (Int32 × Ob) :=
  (if 0 ≤ v2 then
    some (v2, x)
  else
    some (v3, x))
def fX6_heaps : Nat → Int32 → Int32 → Int32 → Ob → Option (Int32 × Ob)
  | 0, _, _, _, _ => none
  | d + 1, p1, p2, p3, x =>
  (if p2 < 0 then
    fX6_heaps_J8 p2 p3 x
  else
    (if 0 ≤ p3 then
      Option.bind (fX6_weight p2) (fun q19 =>
      Option.bind (fX6_weight p3) (fun q23 =>
      (if q19 ≤ q23 then
        ix (((64) * p1) + p3) 512 (fun j69 =>
        Option.bind (fX6_heaps d p1 p2 (x.2 5 j69) x) (fun q70 =>
        Option.bind (fX6_hangsLeft p1 q70.1 p3 q70.2) (fun q74 =>
        some (p3, q74))))
      else
        ix (((64) * p1) + p2) 512 (fun j43 =>
        Option.bind (fX6_heaps d p1 (x.2 6 j43) p3 x) (fun q45 =>
        Option.bind (fX6_hangsRight p1 q45.1 p2 q45.2) (fun q49 =>
        some (p2, q49)))))))
    else
      fX6_heaps_J8 p2 p3 x))
abbrev rmX6_heaps (d : Nat) : Room := { frames := d + 1, cells := 0, slots := 0, locals := d * 23 + 23 }
set_option maxHeartbeats 4000000 in
set_option maxRecDepth 100000 in
theorem ok_X6_heaps {l : Launch} {E : En} {o : Nat} {ad : (Nat → Nat)} : ∀ (d : Nat) {p1 : Int32} {p2 : Int32} {p3 : Int32} {x : Ob} {r : Int32 × Ob}, fX6_heaps d p1 p2 p3 x = some r → CI l yX6_heaps wsX6_heaps (rmX6_heaps d) [.ref o, .int p1, .int p2, .int p3] E (w6 E o ad x) (w6 E o ad r.2) (r.1) := by
  intro d
  induction d with
  | zero =>
    intro p1 p2 p3 x r hf
    rw [fX6_heaps] at hf
    cases hf
  | succ d ih =>
    intro p1 p2 p3 x r hf
    refine xc_I (by decide) rfl (Nat.le_of_ble_eq_true rfl) [(0, .ref o), (1, .int p1), (2, .int p2), (3, .int p3)] rfl (fun p e s m below meth c A C hr => ?_)
    generalize ([.ref o, .int p1, .int p2, .int p3] : List Value).toArray = args at C ⊢
    obtain ⟨Z, hZ⟩ : ∃ Z, Z = ZI E (w6 E o ad r.2) (r.1) A below args s 0 0 := ⟨_, rfl⟩
    rw [← hZ]
    have in6 : ∀ w ∈ wsX60, w ∈ wsX6_heaps := by decide +kernel
    have m19 : Cond.fieldLink RX6 19 "TurningTreesModel" "left" "[I" ∈ wsX6_heaps := by decide +kernel
    have m22 : Cond.fieldLink RX6 22 "TurningTreesModel" "right" "[I" ∈ wsX6_heaps := by decide +kernel
    have hJ8 : ∀ (v2 : Int32), ∀ (v3 : Int32), ∀ (x : Ob), fX6_heaps_J8 v2 v3 x = some r → XW E p l e (rmX6_heaps (d + 1)) s m args below meth c Z A 0 0 (w6 E o ad x) 8 4 [(2, .int v2), (3, .int v3)] [] := by
      intro v2 v3 x h
      rw [fX6_heaps_J8] at h
      refine xw_iload_n C dX6_heaps_8 rfl 0 rfl ?_
      refine xw_if_ge C 16 dX6_heaps_9 (by decide) (fun c9 => ?_) (fun c9 => ?_)
      · have h := px_t c9 h
        refine xw_iload_n C dX6_heaps_16 rfl 0 rfl ?_
        cases h
        rw [hZ]
        exact xw_iret C hr dX6_heaps_17
      · have h := px_f c9 h
        refine xw_iload_n C dX6_heaps_12 rfl 1 rfl ?_
        refine xw_goto C 17 dX6_heaps_13 (by decide) ?_
        cases h
        rw [hZ]
        exact xw_iret C hr dX6_heaps_17
    rw [fX6_heaps] at hf
    have h := hf
    refine xw_iload_n C dX6_heaps_0 rfl 2 rfl ?_
    refine xw_if_lt C 8 dX6_heaps_1 (by decide) (fun c1 => ?_) (fun c1 => ?_)
    · have h := px_t c1 h
      refine xw_perm [2, 3] rfl ?_
      exact hJ8 _ _ _ h
    · have h := px_f c1 h
      refine xw_iload_n C dX6_heaps_4 rfl 3 rfl ?_
      refine xw_if_ge C 18 dX6_heaps_5 (by decide) (fun c5 => ?_) (fun c5 => ?_)
      · have h := px_t c5 h
        refine xw_iload_n C dX6_heaps_18 rfl 2 rfl ?_
        obtain ⟨q19, eq19, h⟩ := px_b h
        refine xw_callSI (w' := w6 E o ad x) (u := []) (v := w6 E o ad x) C (ok_X6_weight  eq19) 1 gX6_heaps_X6_weight rfl ⟨rfl, rfl⟩ (by decide +kernel) ⟨Nat.le_of_ble_eq_true rfl, Nat.le_of_ble_eq_true rfl⟩ rfl (Nat.le_of_ble_eq_true rfl) ⟨Nat.zero_le _, Nat.zero_le _⟩ rfl rfl rfl dX6_heaps_19 ?_
        refine xw_iload_n C dX6_heaps_22 rfl 3 rfl ?_
        obtain ⟨q23, eq23, h⟩ := px_b h
        refine xw_callSI (w' := w6 E o ad x) (u := []) (v := w6 E o ad x) C (ok_X6_weight  eq23) 1 gX6_heaps_X6_weight rfl ⟨rfl, rfl⟩ (by decide +kernel) ⟨Nat.le_of_ble_eq_true rfl, Nat.le_of_ble_eq_true rfl⟩ rfl (Nat.le_of_ble_eq_true rfl) ⟨Nat.zero_le _, Nat.zero_le _⟩ rfl rfl rfl dX6_heaps_23 ?_
        refine xw_icmp_le C 54 dX6_heaps_26 (by decide) (fun c26 => ?_) (fun c26 => ?_)
        · have h := px_t c26 h
          refine xw_aload_n C dX6_heaps_54 rfl 0 rfl ?_
          refine xw_iload_n C dX6_heaps_55 rfl 1 rfl ?_
          refine xw_aload_n C dX6_heaps_56 rfl 0 rfl ?_
          refine xw_iload_n C dX6_heaps_57 rfl 1 rfl ?_
          refine xw_iload_n C dX6_heaps_58 rfl 2 rfl ?_
          refine xw_aload_n C dX6_heaps_59 rfl 0 rfl ?_
          refine xw_get C in6 0 rfl rfl 5 (by decide) m19 rfl rfl dX6_heaps_60 ?_
          refine xw_bipush C (64) dX6_heaps_63 (by decide) ?_
          refine xw_iload_n C dX6_heaps_65 rfl 1 rfl ?_
          refine xw_imul C dX6_heaps_66 ?_
          refine xw_iload_n C dX6_heaps_67 rfl 3 rfl ?_
          refine xw_iadd C dX6_heaps_68 ?_
          obtain ⟨g69, h⟩ := px_x h
          refine xw_iald C 4 rfl g69 dX6_heaps_69 ?_
          obtain ⟨q70, eq70, h⟩ := px_b h
          refine xw_callVI (w' := w6 E o ad q70.2) (u := []) (v := []) C (ih eq70) 3 gX6_heaps_X6_heaps rfl ⟨rfl, rfl⟩ (by decide +kernel) ⟨by show d + 1 + 1 ≤ d + 1 + 1; omega, by show 8 + (4 + 11) + (d * 23 + 23) ≤ (d + 1) * 23 + 23; omega⟩ 0 6 rfl rfl rfl (Nat.le_of_ble_eq_true rfl) ⟨Nat.zero_le _, Nat.zero_le _⟩ rfl xe0 xe0.symm dX6_heaps_70 ?_
          refine xw_iload_n C dX6_heaps_73 rfl 3 rfl ?_
          obtain ⟨q74, eq74, h⟩ := px_b h
          refine xw_callVV (w' := w6 E o ad q74) (u := []) (v := []) C (ok_X6_hangsLeft (o := o) (ad := ad) (x := q70.2) eq74) 3 gX6_heaps_X6_hangsLeft rfl ⟨rfl, rfl⟩ (by decide +kernel) ⟨Nat.le_of_ble_eq_true rfl, Nat.le_of_ble_eq_true rfl⟩ 0 6 rfl rfl rfl (Nat.le_of_ble_eq_true rfl) ⟨Nat.zero_le _, Nat.zero_le _⟩ rfl xe0 xe0.symm dX6_heaps_74 ?_
          refine xw_iload_n C dX6_heaps_77 rfl 3 rfl ?_
          cases h
          rw [hZ]
          exact xw_iret C hr dX6_heaps_78
        · have h := px_f c26 h
          refine xw_aload_n C dX6_heaps_29 rfl 0 rfl ?_
          refine xw_iload_n C dX6_heaps_30 rfl 1 rfl ?_
          refine xw_aload_n C dX6_heaps_31 rfl 0 rfl ?_
          refine xw_iload_n C dX6_heaps_32 rfl 1 rfl ?_
          refine xw_aload_n C dX6_heaps_33 rfl 0 rfl ?_
          refine xw_get C in6 0 rfl rfl 6 (by decide) m22 rfl rfl dX6_heaps_34 ?_
          refine xw_bipush C (64) dX6_heaps_37 (by decide) ?_
          refine xw_iload_n C dX6_heaps_39 rfl 1 rfl ?_
          refine xw_imul C dX6_heaps_40 ?_
          refine xw_iload_n C dX6_heaps_41 rfl 2 rfl ?_
          refine xw_iadd C dX6_heaps_42 ?_
          obtain ⟨g43, h⟩ := px_x h
          refine xw_iald C 5 rfl g43 dX6_heaps_43 ?_
          refine xw_iload_n C dX6_heaps_44 rfl 3 rfl ?_
          obtain ⟨q45, eq45, h⟩ := px_b h
          refine xw_callVI (w' := w6 E o ad q45.2) (u := []) (v := []) C (ih eq45) 3 gX6_heaps_X6_heaps rfl ⟨rfl, rfl⟩ (by decide +kernel) ⟨by show d + 1 + 1 ≤ d + 1 + 1; omega, by show 8 + (4 + 11) + (d * 23 + 23) ≤ (d + 1) * 23 + 23; omega⟩ 0 6 rfl rfl rfl (Nat.le_of_ble_eq_true rfl) ⟨Nat.zero_le _, Nat.zero_le _⟩ rfl xe0 xe0.symm dX6_heaps_45 ?_
          refine xw_iload_n C dX6_heaps_48 rfl 2 rfl ?_
          obtain ⟨q49, eq49, h⟩ := px_b h
          refine xw_callVV (w' := w6 E o ad q49) (u := []) (v := []) C (ok_X6_hangsRight (o := o) (ad := ad) (x := q45.2) eq49) 3 gX6_heaps_X6_hangsRight rfl ⟨rfl, rfl⟩ (by decide +kernel) ⟨Nat.le_of_ble_eq_true rfl, Nat.le_of_ble_eq_true rfl⟩ 0 6 rfl rfl rfl (Nat.le_of_ble_eq_true rfl) ⟨Nat.zero_le _, Nat.zero_le _⟩ rfl xe0 xe0.symm dX6_heaps_49 ?_
          refine xw_iload_n C dX6_heaps_52 rfl 2 rfl ?_
          cases h
          rw [hZ]
          exact xw_iret C hr dX6_heaps_53
      · have h := px_f c5 h
        refine xw_perm [2, 3] rfl ?_
        exact hJ8 _ _ _ h
