def ob0 : Ob := (fun _ => 0, fun _ _ => 0)
def shp0 (f1 : Nat → Int32) : Ob := ob_i (ob_f (ob_f (ob_f ob0 0 f1) 1 f1) 2 f1) 5 (-1)
def w5 (E : En) (o : Nat) (ad : Nat → Nat) (pg bs : Nat) (x : Ob) (g : Nat → Option Nat) : va_W := [(o, .inr (5, [.ref (ad 0), .int (x.1 1), .ref (ad 2), .int (x.1 3), .ref (ad 4), .ref pg, .ref bs])), (ad 0, .inl (E.2.2.2, 8, .inr (.inr (.inr (.inr g))))), (ad 2, .inl (E.2.1, 1280, .inl (x.2 2))), (ad 4, .inl (E.2.1, 64, .inl (x.2 4)))]
theorem XW_eq {kc ks : Nat} {E : En} {p : Program} {l : Launch} {e : Env} {R : Room} {s : State} {m : MethodId} {args : Array Value} {below : List Frame} {meth : Method} {c : Code} {Z : State → Prop} {A : Nat → Prop} {w w2 : va_W} {pc nL : Nat} {lv : List (Nat × Value)} {st : List Value} (h : w = w2) (k : XW E p l e R s m args below meth c Z A kc ks w2 pc nL lv st) : XW E p l e R s m args below meth c Z A kc ks w pc nL lv st := by subst h; exact k
abbrev rmX1_init : Room := { frames := 1, cells := 1, slots := 16, locals := 12 }
set_option maxHeartbeats 4000000 in
set_option maxRecDepth 100000 in
theorem ok_X1_init {l : Launch} {E : En} {o : Nat} : CM l yX1_init wsX1_init rmX1_init [.ref o] E [(o, .inr (1, [.null, .int 0]))] (fun q : Nat → Nat => w1 E o q ob0) := by
  refine xc_M (by decide) rfl (Nat.le_of_ble_eq_true rfl) [(0, .ref o)] rfl (fun p e s m below meth c A C hr hmn => ?_)
  have in1 : ∀ w ∈ wsX10, w ∈ wsX1_init := by decide +kernel
  have m9 : Cond.fieldLink RX1 9 "TurningTrees$Page" "keys" "[I" ∈ wsX1_init := by decide +kernel
  have m15 : Cond.fieldLink RX1 15 "TurningTrees$Page" "filled" "I" ∈ wsX1_init := by decide +kernel
  refine xw_aload_n C dX1_init_0 rfl 0 rfl ?_
  refine xw_obj C (by decide +kernel) (by decide +kernel) (by decide +kernel) (Nat.le_of_ble_eq_true rfl) (Nat.le_of_ble_eq_true rfl) dX1_init_1 ?_
  refine xw_aload_n C dX1_init_4 rfl 0 rfl ?_
  refine xw_bipush C (16) dX1_init_5 (by decide) ?_
  refine xw_newi C (by decide +kernel) 16 (by decide) (by decide) (by decide) ⟨Nat.le_of_ble_eq_true rfl, Nat.le_of_ble_eq_true rfl⟩ dX1_init_7 (fun q7 => ?_)
  refine xw_putF (w' := [(o, .inr (1, [.ref q7, .int 0])), (q7, .inl (E.2.1, 16, .inl (fun _ => 0)))]) C in1 tyX1 tyX1_ok nmX1 0 rfl rfl 0 (by decide) m9 rfl rfl hmn rfl rfl rfl (Nat.le_of_ble_eq_true rfl) rfl dX1_init_9 ?_
  refine xw_aload_n C dX1_init_12 rfl 0 rfl ?_
  refine xw_iconst C (0) dX1_init_13 (by decide) ?_
  refine xw_put (w' := [(o, .inr (1, [.ref q7, .int (0)])), (q7, .inl (E.2.1, 16, .inl (fun _ => 0)))]) C in1 tyX1 tyX1_ok nmX1 0 rfl rfl 1 (by decide) m15 rfl rfl rfl (Nat.le_of_ble_eq_true rfl) rfl dX1_init_14 ?_
  exact xw_vretM (fun k => if k = 0 then q7 else 0) C hr rfl dX1_init_17
abbrev rmX0_init : Room := { frames := 1, cells := 5, slots := 4482, locals := 12 }
set_option maxHeartbeats 4000000 in
set_option maxRecDepth 100000 in
theorem ok_X0_init {l : Launch} {E : En} {o : Nat} : CM l yX0_init wsX0_init rmX0_init [.ref o] E [(o, .inr (0, [.null, .null, .null, .null, .null, .int 0, .int 0]))] (fun q : Nat → Nat => w0 E o q (ob_i ob0 6 (-1))) := by
  refine xc_M (by decide) rfl (Nat.le_of_ble_eq_true rfl) [(0, .ref o)] rfl (fun p e s m below meth c A C hr hmn => ?_)
  have in0 : ∀ w ∈ wsX00, w ∈ wsX0_init := by decide +kernel
  have m9 : Cond.fieldLink RX0 9 "TurningTrees$BestStill" "keys" "[I" ∈ wsX0_init := by decide +kernel
  have m15 : Cond.fieldLink RX0 15 "TurningTrees$BestStill" "asks" "[I" ∈ wsX0_init := by decide +kernel
  have m18 : Cond.fieldLink RX0 18 "TurningTrees$BestStill" "asksBefore" "[I" ∈ wsX0_init := by decide +kernel
  have m21 : Cond.fieldLink RX0 21 "TurningTrees$BestStill" "least" "[I" ∈ wsX0_init := by decide +kernel
  have m24 : Cond.fieldLink RX0 24 "TurningTrees$BestStill" "tops" "[I" ∈ wsX0_init := by decide +kernel
  have m27 : Cond.fieldLink RX0 27 "TurningTrees$BestStill" "sum" "I" ∈ wsX0_init := by decide +kernel
  have m31 : Cond.fieldLink RX0 31 "TurningTrees$BestStill" "root" "I" ∈ wsX0_init := by decide +kernel
  refine xw_aload_n C dX0_init_0 rfl 0 rfl ?_
  refine xw_obj C (by decide +kernel) (by decide +kernel) (by decide +kernel) (Nat.le_of_ble_eq_true rfl) (Nat.le_of_ble_eq_true rfl) dX0_init_1 ?_
  refine xw_aload_n C dX0_init_4 rfl 0 rfl ?_
  refine xw_bipush C (64) dX0_init_5 (by decide) ?_
  refine xw_newi C (by decide +kernel) 64 (by decide) (by decide) (by decide) ⟨Nat.le_of_ble_eq_true rfl, Nat.le_of_ble_eq_true rfl⟩ dX0_init_7 (fun q7 => ?_)
  refine xw_putF (w' := [(o, .inr (0, [.ref q7, .null, .null, .null, .null, .int 0, .int 0])), (q7, .inl (E.2.1, 64, .inl (fun _ => 0)))]) C in0 tyX0 tyX0_ok nmX0 0 rfl rfl 0 (by decide) m9 rfl rfl hmn rfl rfl rfl (Nat.le_of_ble_eq_true rfl) rfl dX0_init_9 ?_
  refine xw_aload_n C dX0_init_12 rfl 0 rfl ?_
  refine xw_bipush C (64) dX0_init_13 (by decide) ?_
  refine xw_newi C (by decide +kernel) 64 (by decide) (by decide) (by decide) ⟨Nat.le_of_ble_eq_true rfl, Nat.le_of_ble_eq_true rfl⟩ dX0_init_15 (fun q15 => ?_)
  refine xw_putF (w' := [(o, .inr (0, [.ref q7, .ref q15, .null, .null, .null, .int 0, .int 0])), (q7, .inl (E.2.1, 64, .inl (fun _ => 0))), (q15, .inl (E.2.1, 64, .inl (fun _ => 0)))]) C in0 tyX0 tyX0_ok nmX0 0 rfl rfl 1 (by decide) m15 rfl rfl hmn rfl rfl rfl (Nat.le_of_ble_eq_true rfl) rfl dX0_init_17 ?_
  refine xw_aload_n C dX0_init_20 rfl 0 rfl ?_
  refine xw_bipush C (65) dX0_init_21 (by decide) ?_
  refine xw_newi C (by decide +kernel) 65 (by decide) (by decide) (by decide) ⟨Nat.le_of_ble_eq_true rfl, Nat.le_of_ble_eq_true rfl⟩ dX0_init_23 (fun q23 => ?_)
  refine xw_putF (w' := [(o, .inr (0, [.ref q7, .ref q15, .ref q23, .null, .null, .int 0, .int 0])), (q7, .inl (E.2.1, 64, .inl (fun _ => 0))), (q15, .inl (E.2.1, 64, .inl (fun _ => 0))), (q23, .inl (E.2.1, 65, .inl (fun _ => 0)))]) C in0 tyX0 tyX0_ok nmX0 0 rfl rfl 2 (by decide) m18 rfl rfl hmn rfl rfl rfl (Nat.le_of_ble_eq_true rfl) rfl dX0_init_25 ?_
  refine xw_aload_n C dX0_init_28 rfl 0 rfl ?_
  refine xw_sipush C (4225) dX0_init_29 (by decide) ?_
  refine xw_newi C (by decide +kernel) 4225 (by decide) (by decide) (by decide) ⟨Nat.le_of_ble_eq_true rfl, Nat.le_of_ble_eq_true rfl⟩ dX0_init_32 (fun q32 => ?_)
  refine xw_putF (w' := [(o, .inr (0, [.ref q7, .ref q15, .ref q23, .ref q32, .null, .int 0, .int 0])), (q7, .inl (E.2.1, 64, .inl (fun _ => 0))), (q15, .inl (E.2.1, 64, .inl (fun _ => 0))), (q23, .inl (E.2.1, 65, .inl (fun _ => 0))), (q32, .inl (E.2.1, 4225, .inl (fun _ => 0)))]) C in0 tyX0 tyX0_ok nmX0 0 rfl rfl 3 (by decide) m21 rfl rfl hmn rfl rfl rfl (Nat.le_of_ble_eq_true rfl) rfl dX0_init_34 ?_
  refine xw_aload_n C dX0_init_37 rfl 0 rfl ?_
  refine xw_bipush C (64) dX0_init_38 (by decide) ?_
  refine xw_newi C (by decide +kernel) 64 (by decide) (by decide) (by decide) ⟨Nat.le_of_ble_eq_true rfl, Nat.le_of_ble_eq_true rfl⟩ dX0_init_40 (fun q40 => ?_)
  refine xw_putF (w' := [(o, .inr (0, [.ref q7, .ref q15, .ref q23, .ref q32, .ref q40, .int 0, .int 0])), (q7, .inl (E.2.1, 64, .inl (fun _ => 0))), (q15, .inl (E.2.1, 64, .inl (fun _ => 0))), (q23, .inl (E.2.1, 65, .inl (fun _ => 0))), (q32, .inl (E.2.1, 4225, .inl (fun _ => 0))), (q40, .inl (E.2.1, 64, .inl (fun _ => 0)))]) C in0 tyX0 tyX0_ok nmX0 0 rfl rfl 4 (by decide) m24 rfl rfl hmn rfl rfl rfl (Nat.le_of_ble_eq_true rfl) rfl dX0_init_42 ?_
  refine xw_aload_n C dX0_init_45 rfl 0 rfl ?_
  refine xw_iconst C (0) dX0_init_46 (by decide) ?_
  refine xw_put (w' := [(o, .inr (0, [.ref q7, .ref q15, .ref q23, .ref q32, .ref q40, .int (0), .int 0])), (q7, .inl (E.2.1, 64, .inl (fun _ => 0))), (q15, .inl (E.2.1, 64, .inl (fun _ => 0))), (q23, .inl (E.2.1, 65, .inl (fun _ => 0))), (q32, .inl (E.2.1, 4225, .inl (fun _ => 0))), (q40, .inl (E.2.1, 64, .inl (fun _ => 0)))]) C in0 tyX0 tyX0_ok nmX0 0 rfl rfl 5 (by decide) m27 rfl rfl rfl (Nat.le_of_ble_eq_true rfl) rfl dX0_init_47 ?_
  refine xw_aload_n C dX0_init_50 rfl 0 rfl ?_
  refine xw_iconst C (-1) dX0_init_51 (by decide) ?_
  refine xw_put (w' := [(o, .inr (0, [.ref q7, .ref q15, .ref q23, .ref q32, .ref q40, .int (0), .int (-1)])), (q7, .inl (E.2.1, 64, .inl (fun _ => 0))), (q15, .inl (E.2.1, 64, .inl (fun _ => 0))), (q23, .inl (E.2.1, 65, .inl (fun _ => 0))), (q32, .inl (E.2.1, 4225, .inl (fun _ => 0))), (q40, .inl (E.2.1, 64, .inl (fun _ => 0)))]) C in0 tyX0 tyX0_ok nmX0 0 rfl rfl 6 (by decide) m31 rfl rfl rfl (Nat.le_of_ble_eq_true rfl) rfl dX0_init_52 ?_
  exact xw_vretM (fun k => if k = 0 then q7 else if k = 1 then q15 else if k = 2 then q23 else if k = 3 then q32 else if k = 4 then q40 else 0) C hr rfl dX0_init_55
abbrev rmX2_init : Room := { frames := 1, cells := 1, slots := 100, locals := 12 }
set_option maxHeartbeats 4000000 in
set_option maxRecDepth 100000 in
theorem ok_X2_init {l : Launch} {E : En} {o : Nat} : CM l yX2_init wsX2_init rmX2_init [.ref o] E [(o, .inr (2, [.null, .int 0]))] (fun q : Nat → Nat => w2 E o q ob0) := by
  refine xc_M (by decide) rfl (Nat.le_of_ble_eq_true rfl) [(0, .ref o)] rfl (fun p e s m below meth c A C hr hmn => ?_)
  have in2 : ∀ w ∈ wsX20, w ∈ wsX2_init := by decide +kernel
  have m9 : Cond.fieldLink RX2 9 "TurningTrees$Row" "keys" "[I" ∈ wsX2_init := by decide +kernel
  have m15 : Cond.fieldLink RX2 15 "TurningTrees$Row" "length" "I" ∈ wsX2_init := by decide +kernel
  refine xw_aload_n C dX2_init_0 rfl 0 rfl ?_
  refine xw_obj C (by decide +kernel) (by decide +kernel) (by decide +kernel) (Nat.le_of_ble_eq_true rfl) (Nat.le_of_ble_eq_true rfl) dX2_init_1 ?_
  refine xw_aload_n C dX2_init_4 rfl 0 rfl ?_
  refine xw_bipush C (100) dX2_init_5 (by decide) ?_
  refine xw_newi C (by decide +kernel) 100 (by decide) (by decide) (by decide) ⟨Nat.le_of_ble_eq_true rfl, Nat.le_of_ble_eq_true rfl⟩ dX2_init_7 (fun q7 => ?_)
  refine xw_putF (w' := [(o, .inr (2, [.ref q7, .int 0])), (q7, .inl (E.2.1, 100, .inl (fun _ => 0)))]) C in2 tyX2 tyX2_ok nmX2 0 rfl rfl 0 (by decide) m9 rfl rfl hmn rfl rfl rfl (Nat.le_of_ble_eq_true rfl) rfl dX2_init_9 ?_
  refine xw_aload_n C dX2_init_12 rfl 0 rfl ?_
  refine xw_iconst C (0) dX2_init_13 (by decide) ?_
  refine xw_put (w' := [(o, .inr (2, [.ref q7, .int (0)])), (q7, .inl (E.2.1, 100, .inl (fun _ => 0)))]) C in2 tyX2 tyX2_ok nmX2 0 rfl rfl 1 (by decide) m15 rfl rfl rfl (Nat.le_of_ble_eq_true rfl) rfl dX2_init_14 ?_
  exact xw_vretM (fun k => if k = 0 then q7 else 0) C hr rfl dX2_init_17
abbrev rmX3_init : Room := { frames := 1, cells := 5, slots := 320, locals := 23 }
set_option maxHeartbeats 4000000 in
set_option maxRecDepth 100000 in
theorem ok_X3_init {l : Launch} {E : En} {o : Nat} {f1 : Nat → Int32} (hf : fJ7_fill_53178 64 (-1) (fun _ => 0) = some f1) : CM l yX3_init wsX3_init rmX3_init [.ref o] E [(o, .inr (3, [.null, .null, .null, .null, .null, .int 0, .int 0]))] (fun q : Nat → Nat => w3 E o q (shp0 f1)) := by
  refine xc_M (by decide) rfl (Nat.le_of_ble_eq_true rfl) [(0, .ref o)] rfl (fun p e s m below meth c A C hr hmn => ?_)
  have in3 : ∀ w ∈ wsX30, w ∈ wsX3_init := by decide +kernel
  have m9 : Cond.fieldLink RX3 9 "TurningTrees$Shape" "left" "[I" ∈ wsX3_init := by decide +kernel
  have m15 : Cond.fieldLink RX3 15 "TurningTrees$Shape" "right" "[I" ∈ wsX3_init := by decide +kernel
  have m18 : Cond.fieldLink RX3 18 "TurningTrees$Shape" "up" "[I" ∈ wsX3_init := by decide +kernel
  have m21 : Cond.fieldLink RX3 21 "TurningTrees$Shape" "size" "[I" ∈ wsX3_init := by decide +kernel
  have m24 : Cond.fieldLink RX3 24 "TurningTrees$Shape" "order" "[I" ∈ wsX3_init := by decide +kernel
  have m33 : Cond.fieldLink RX3 33 "TurningTrees$Shape" "root" "I" ∈ wsX3_init := by decide +kernel
  have m37 : Cond.fieldLink RX3 37 "TurningTrees$Shape" "turns" "I" ∈ wsX3_init := by decide +kernel
  refine xw_aload_n C dX3_init_0 rfl 0 rfl ?_
  refine xw_obj C (by decide +kernel) (by decide +kernel) (by decide +kernel) (Nat.le_of_ble_eq_true rfl) (Nat.le_of_ble_eq_true rfl) dX3_init_1 ?_
  refine xw_aload_n C dX3_init_4 rfl 0 rfl ?_
  refine xw_bipush C (64) dX3_init_5 (by decide) ?_
  refine xw_newi C (by decide +kernel) 64 (by decide) (by decide) (by decide) ⟨Nat.le_of_ble_eq_true rfl, Nat.le_of_ble_eq_true rfl⟩ dX3_init_7 (fun q7 => ?_)
  refine xw_putF (w' := [(o, .inr (3, [.ref q7, .null, .null, .null, .null, .int 0, .int 0])), (q7, .inl (E.2.1, 64, .inl (fun _ => 0)))]) C in3 tyX3 tyX3_ok nmX3 0 rfl rfl 0 (by decide) m9 rfl rfl hmn rfl rfl rfl (Nat.le_of_ble_eq_true rfl) rfl dX3_init_9 ?_
  refine xw_aload_n C dX3_init_12 rfl 0 rfl ?_
  refine xw_bipush C (64) dX3_init_13 (by decide) ?_
  refine xw_newi C (by decide +kernel) 64 (by decide) (by decide) (by decide) ⟨Nat.le_of_ble_eq_true rfl, Nat.le_of_ble_eq_true rfl⟩ dX3_init_15 (fun q15 => ?_)
  refine xw_putF (w' := [(o, .inr (3, [.ref q7, .ref q15, .null, .null, .null, .int 0, .int 0])), (q7, .inl (E.2.1, 64, .inl (fun _ => 0))), (q15, .inl (E.2.1, 64, .inl (fun _ => 0)))]) C in3 tyX3 tyX3_ok nmX3 0 rfl rfl 1 (by decide) m15 rfl rfl hmn rfl rfl rfl (Nat.le_of_ble_eq_true rfl) rfl dX3_init_17 ?_
  refine xw_aload_n C dX3_init_20 rfl 0 rfl ?_
  refine xw_bipush C (64) dX3_init_21 (by decide) ?_
  refine xw_newi C (by decide +kernel) 64 (by decide) (by decide) (by decide) ⟨Nat.le_of_ble_eq_true rfl, Nat.le_of_ble_eq_true rfl⟩ dX3_init_23 (fun q23 => ?_)
  refine xw_putF (w' := [(o, .inr (3, [.ref q7, .ref q15, .ref q23, .null, .null, .int 0, .int 0])), (q7, .inl (E.2.1, 64, .inl (fun _ => 0))), (q15, .inl (E.2.1, 64, .inl (fun _ => 0))), (q23, .inl (E.2.1, 64, .inl (fun _ => 0)))]) C in3 tyX3 tyX3_ok nmX3 0 rfl rfl 2 (by decide) m18 rfl rfl hmn rfl rfl rfl (Nat.le_of_ble_eq_true rfl) rfl dX3_init_25 ?_
  refine xw_aload_n C dX3_init_28 rfl 0 rfl ?_
  refine xw_bipush C (64) dX3_init_29 (by decide) ?_
  refine xw_newi C (by decide +kernel) 64 (by decide) (by decide) (by decide) ⟨Nat.le_of_ble_eq_true rfl, Nat.le_of_ble_eq_true rfl⟩ dX3_init_31 (fun q31 => ?_)
  refine xw_putF (w' := [(o, .inr (3, [.ref q7, .ref q15, .ref q23, .ref q31, .null, .int 0, .int 0])), (q7, .inl (E.2.1, 64, .inl (fun _ => 0))), (q15, .inl (E.2.1, 64, .inl (fun _ => 0))), (q23, .inl (E.2.1, 64, .inl (fun _ => 0))), (q31, .inl (E.2.1, 64, .inl (fun _ => 0)))]) C in3 tyX3 tyX3_ok nmX3 0 rfl rfl 3 (by decide) m21 rfl rfl hmn rfl rfl rfl (Nat.le_of_ble_eq_true rfl) rfl dX3_init_33 ?_
  refine xw_aload_n C dX3_init_36 rfl 0 rfl ?_
  refine xw_bipush C (64) dX3_init_37 (by decide) ?_
  refine xw_newi C (by decide +kernel) 64 (by decide) (by decide) (by decide) ⟨Nat.le_of_ble_eq_true rfl, Nat.le_of_ble_eq_true rfl⟩ dX3_init_39 (fun q39 => ?_)
  refine xw_putF (w' := [(o, .inr (3, [.ref q7, .ref q15, .ref q23, .ref q31, .ref q39, .int 0, .int 0])), (q7, .inl (E.2.1, 64, .inl (fun _ => 0))), (q15, .inl (E.2.1, 64, .inl (fun _ => 0))), (q23, .inl (E.2.1, 64, .inl (fun _ => 0))), (q31, .inl (E.2.1, 64, .inl (fun _ => 0))), (q39, .inl (E.2.1, 64, .inl (fun _ => 0)))]) C in3 tyX3 tyX3_ok nmX3 0 rfl rfl 4 (by decide) m24 rfl rfl hmn rfl rfl rfl (Nat.le_of_ble_eq_true rfl) rfl dX3_init_41 ?_
  refine xw_aload_n C dX3_init_44 rfl 0 rfl ?_
  refine xw_get C in3 0 rfl rfl 0 (by decide) m9 rfl rfl dX3_init_45 ?_
  refine xw_iconst C (-1) dX3_init_48 (by decide) ?_
  refine xw_callSV (w' := [(o, .inr (3, [.ref q7, .ref q15, .ref q23, .ref q31, .ref q39, .int 0, .int 0])), (q7, .inl (E.2.1, 64, .inl f1)), (q15, .inl (E.2.1, 64, .inl (fun _ => 0))), (q23, .inl (E.2.1, 64, .inl (fun _ => 0))), (q31, .inl (E.2.1, 64, .inl (fun _ => 0))), (q39, .inl (E.2.1, 64, .inl (fun _ => 0)))]) (u := ([(o, .inr (3, [.ref q7, .ref q15, .ref q23, .ref q31, .ref q39, .int 0, .int 0])), (q7, .inl (E.2.1, 64, .inl (fun _ => 0))), (q15, .inl (E.2.1, 64, .inl (fun _ => 0))), (q23, .inl (E.2.1, 64, .inl (fun _ => 0))), (q31, .inl (E.2.1, 64, .inl (fun _ => 0))), (q39, .inl (E.2.1, 64, .inl (fun _ => 0)))]).take 1) (v := ([(o, .inr (3, [.ref q7, .ref q15, .ref q23, .ref q31, .ref q39, .int 0, .int 0])), (q7, .inl (E.2.1, 64, .inl (fun _ => 0))), (q15, .inl (E.2.1, 64, .inl (fun _ => 0))), (q23, .inl (E.2.1, 64, .inl (fun _ => 0))), (q31, .inl (E.2.1, 64, .inl (fun _ => 0))), (q39, .inl (E.2.1, 64, .inl (fun _ => 0)))]).drop 2) C (ok_J7_fill_53178 (a := q7) (nn := 64) hf) 2 gX3_init_J7_fill_53178 rfl ⟨rfl, rfl⟩ (by decide +kernel) ⟨Nat.le_of_ble_eq_true rfl, Nat.le_of_ble_eq_true rfl⟩ rfl (Nat.le_of_ble_eq_true rfl) ⟨Nat.le_of_ble_eq_true rfl, Nat.le_of_ble_eq_true rfl⟩ rfl rfl rfl dX3_init_49 ?_
  refine xw_aload_n C dX3_init_52 rfl 0 rfl ?_
  refine xw_get C in3 0 rfl rfl 1 (by decide) m15 rfl rfl dX3_init_53 ?_
  refine xw_iconst C (-1) dX3_init_56 (by decide) ?_
  refine xw_callSV (w' := [(o, .inr (3, [.ref q7, .ref q15, .ref q23, .ref q31, .ref q39, .int 0, .int 0])), (q7, .inl (E.2.1, 64, .inl f1)), (q15, .inl (E.2.1, 64, .inl f1)), (q23, .inl (E.2.1, 64, .inl (fun _ => 0))), (q31, .inl (E.2.1, 64, .inl (fun _ => 0))), (q39, .inl (E.2.1, 64, .inl (fun _ => 0)))]) (u := ([(o, .inr (3, [.ref q7, .ref q15, .ref q23, .ref q31, .ref q39, .int 0, .int 0])), (q7, .inl (E.2.1, 64, .inl f1)), (q15, .inl (E.2.1, 64, .inl (fun _ => 0))), (q23, .inl (E.2.1, 64, .inl (fun _ => 0))), (q31, .inl (E.2.1, 64, .inl (fun _ => 0))), (q39, .inl (E.2.1, 64, .inl (fun _ => 0)))]).take 2) (v := ([(o, .inr (3, [.ref q7, .ref q15, .ref q23, .ref q31, .ref q39, .int 0, .int 0])), (q7, .inl (E.2.1, 64, .inl f1)), (q15, .inl (E.2.1, 64, .inl (fun _ => 0))), (q23, .inl (E.2.1, 64, .inl (fun _ => 0))), (q31, .inl (E.2.1, 64, .inl (fun _ => 0))), (q39, .inl (E.2.1, 64, .inl (fun _ => 0)))]).drop 3) C (ok_J7_fill_53178 (a := q15) (nn := 64) hf) 2 gX3_init_J7_fill_53178 rfl ⟨rfl, rfl⟩ (by decide +kernel) ⟨Nat.le_of_ble_eq_true rfl, Nat.le_of_ble_eq_true rfl⟩ rfl (Nat.le_of_ble_eq_true rfl) ⟨Nat.le_of_ble_eq_true rfl, Nat.le_of_ble_eq_true rfl⟩ rfl rfl rfl dX3_init_57 ?_
  refine xw_aload_n C dX3_init_60 rfl 0 rfl ?_
  refine xw_get C in3 0 rfl rfl 2 (by decide) m18 rfl rfl dX3_init_61 ?_
  refine xw_iconst C (-1) dX3_init_64 (by decide) ?_
  refine xw_callSV (w' := [(o, .inr (3, [.ref q7, .ref q15, .ref q23, .ref q31, .ref q39, .int 0, .int 0])), (q7, .inl (E.2.1, 64, .inl f1)), (q15, .inl (E.2.1, 64, .inl f1)), (q23, .inl (E.2.1, 64, .inl f1)), (q31, .inl (E.2.1, 64, .inl (fun _ => 0))), (q39, .inl (E.2.1, 64, .inl (fun _ => 0)))]) (u := ([(o, .inr (3, [.ref q7, .ref q15, .ref q23, .ref q31, .ref q39, .int 0, .int 0])), (q7, .inl (E.2.1, 64, .inl f1)), (q15, .inl (E.2.1, 64, .inl f1)), (q23, .inl (E.2.1, 64, .inl (fun _ => 0))), (q31, .inl (E.2.1, 64, .inl (fun _ => 0))), (q39, .inl (E.2.1, 64, .inl (fun _ => 0)))]).take 3) (v := ([(o, .inr (3, [.ref q7, .ref q15, .ref q23, .ref q31, .ref q39, .int 0, .int 0])), (q7, .inl (E.2.1, 64, .inl f1)), (q15, .inl (E.2.1, 64, .inl f1)), (q23, .inl (E.2.1, 64, .inl (fun _ => 0))), (q31, .inl (E.2.1, 64, .inl (fun _ => 0))), (q39, .inl (E.2.1, 64, .inl (fun _ => 0)))]).drop 4) C (ok_J7_fill_53178 (a := q23) (nn := 64) hf) 2 gX3_init_J7_fill_53178 rfl ⟨rfl, rfl⟩ (by decide +kernel) ⟨Nat.le_of_ble_eq_true rfl, Nat.le_of_ble_eq_true rfl⟩ rfl (Nat.le_of_ble_eq_true rfl) ⟨Nat.le_of_ble_eq_true rfl, Nat.le_of_ble_eq_true rfl⟩ rfl rfl rfl dX3_init_65 ?_
  refine xw_aload_n C dX3_init_68 rfl 0 rfl ?_
  refine xw_iconst C (-1) dX3_init_69 (by decide) ?_
  refine xw_put (w' := [(o, .inr (3, [.ref q7, .ref q15, .ref q23, .ref q31, .ref q39, .int (-1), .int 0])), (q7, .inl (E.2.1, 64, .inl f1)), (q15, .inl (E.2.1, 64, .inl f1)), (q23, .inl (E.2.1, 64, .inl f1)), (q31, .inl (E.2.1, 64, .inl (fun _ => 0))), (q39, .inl (E.2.1, 64, .inl (fun _ => 0)))]) C in3 tyX3 tyX3_ok nmX3 0 rfl rfl 5 (by decide) m33 rfl rfl rfl (Nat.le_of_ble_eq_true rfl) rfl dX3_init_70 ?_
  refine xw_aload_n C dX3_init_73 rfl 0 rfl ?_
  refine xw_iconst C (0) dX3_init_74 (by decide) ?_
  refine xw_put (w' := [(o, .inr (3, [.ref q7, .ref q15, .ref q23, .ref q31, .ref q39, .int (-1), .int (0)])), (q7, .inl (E.2.1, 64, .inl f1)), (q15, .inl (E.2.1, 64, .inl f1)), (q23, .inl (E.2.1, 64, .inl f1)), (q31, .inl (E.2.1, 64, .inl (fun _ => 0))), (q39, .inl (E.2.1, 64, .inl (fun _ => 0)))]) C in3 tyX3 tyX3_ok nmX3 0 rfl rfl 6 (by decide) m37 rfl rfl rfl (Nat.le_of_ble_eq_true rfl) rfl dX3_init_75 ?_
  exact xw_vretM (fun k => if k = 0 then q7 else if k = 1 then q15 else if k = 2 then q23 else if k = 3 then q31 else if k = 4 then q39 else 0) C hr rfl dX3_init_78
abbrev rmX4_init : Room := { frames := 2, cells := 8, slots := 429, locals := 43 }
set_option maxHeartbeats 4000000 in
set_option maxRecDepth 100000 in
theorem ok_X4_init {l : Launch} {E : En} {o : Nat} {p1 : Int32} {f1 : Nat → Int32} (hf : fJ7_fill_53178 64 (-1) (fun _ => 0) = some f1) : CM l yX4_init wsX4_init rmX4_init [.ref o, .int p1] E [(o, .inr (4, [.int 0, .null, .null, .int 0, .int 0]))] (fun q : Nat × Nat × (Nat → Nat) × (Nat → Nat) => w4 E o q.1 q.2.1 q.2.2.1 q.2.2.2 (ob_i ob0 0 p1) (shp0 f1) ob0) := by
  refine xc_M (by decide) rfl (Nat.le_of_ble_eq_true rfl) [(0, .ref o), (1, .int p1)] rfl (fun p e s m below meth c A C hr hmn => ?_)
  have in2 : ∀ w ∈ wsX20, w ∈ wsX4_init := by decide +kernel
  have in3 : ∀ w ∈ wsX30, w ∈ wsX4_init := by decide +kernel
  have in4 : ∀ w ∈ wsX40, w ∈ wsX4_init := by decide +kernel
  have m9 : Cond.fieldLink RX4 9 "TurningTrees$Tree" "kind" "I" ∈ wsX4_init := by decide +kernel
  have m18 : Cond.fieldLink RX4 18 "TurningTrees$Tree" "shape" "LTurningTrees$Shape;" ∈ wsX4_init := by decide +kernel
  have m25 : Cond.fieldLink RX4 25 "TurningTrees$Tree" "row" "LTurningTrees$Row;" ∈ wsX4_init := by decide +kernel
  have m29 : Cond.fieldLink RX4 29 "TurningTrees$Tree" "costs" "I" ∈ wsX4_init := by decide +kernel
  have m32 : Cond.fieldLink RX4 32 "TurningTrees$Tree" "most" "I" ∈ wsX4_init := by decide +kernel
  refine xw_aload_n C dX4_init_0 rfl 0 rfl ?_
  refine xw_obj C (by decide +kernel) (by decide +kernel) (by decide +kernel) (Nat.le_of_ble_eq_true rfl) (Nat.le_of_ble_eq_true rfl) dX4_init_1 ?_
  refine xw_aload_n C dX4_init_4 rfl 0 rfl ?_
  refine xw_iload_n C dX4_init_5 rfl 1 rfl ?_
  refine xw_putF (w' := [(o, .inr (4, [.int p1, .null, .null, .int 0, .int 0]))]) C in4 tyX4 tyX4_ok nmX4 0 rfl rfl 0 (by decide) m9 rfl rfl hmn rfl rfl rfl (Nat.le_of_ble_eq_true rfl) rfl dX4_init_6 ?_
  refine xw_aload_n C dX4_init_9 rfl 0 rfl ?_
  refine xw_new (ci := 3) (fs := [.null, .null, .null, .null, .null, .int 0, .int 0]) C in3 tyX3 tyX3_ok (by decide +kernel) (by decide +kernel) (by decide +kernel) rfl (fun j hj => by rcases (show j = 0 ∨ j = 1 ∨ j = 2 ∨ j = 3 ∨ j = 4 ∨ j = 5 ∨ j = 6 by omega) with rfl | rfl | rfl | rfl | rfl | rfl | rfl <;> rfl) ⟨Nat.le_of_ble_eq_true rfl, Nat.le_of_ble_eq_true rfl⟩ dX4_init_10 (fun q10 => ?_)
  refine xw_dup C dX4_init_13 rfl ?_
  refine xw_callM (u := [(o, .inr (4, [.int p1, .null, .null, .int 0, .int 0]))]) (v := []) C (ok_X3_init hf) 0 gX4_init_X3_init rfl (by decide +kernel) (by decide +kernel) (by decide +kernel) rfl (by decide +kernel) ⟨Nat.le_of_ble_eq_true rfl, Nat.le_of_ble_eq_true rfl⟩ rfl (Nat.le_of_ble_eq_true rfl) ⟨Nat.le_of_ble_eq_true rfl, Nat.le_of_ble_eq_true rfl⟩ rfl rfl dX4_init_14 (fun d14 => ?_)
  refine XW_eq (w2 := [(o, .inr (4, [.int p1, .null, .null, .int 0, .int 0]))] ++ w3 E q10 d14 (shp0 f1)) (by simp only [List.append_nil]) ?_
  refine xw_putF (w' := [(o, .inr (4, [.int p1, .ref q10, .null, .int 0, .int 0]))] ++ w3 E q10 d14 (shp0 f1)) C in4 tyX4 tyX4_ok nmX4 0 rfl rfl 1 (by decide) m18 rfl rfl hmn rfl rfl rfl (Nat.le_of_ble_eq_true rfl) rfl dX4_init_17 ?_
  refine xw_aload_n C dX4_init_20 rfl 0 rfl ?_
  refine xw_new (ci := 2) (fs := [.null, .int 0]) C in2 tyX2 tyX2_ok (by decide +kernel) (by decide +kernel) (by decide +kernel) rfl (fun j hj => by rcases (show j = 0 ∨ j = 1 by omega) with rfl | rfl <;> rfl) ⟨Nat.le_of_ble_eq_true rfl, Nat.le_of_ble_eq_true rfl⟩ dX4_init_21 (fun q21 => ?_)
  refine xw_dup C dX4_init_24 rfl ?_
  refine xw_callM (u := [(o, .inr (4, [.int p1, .ref q10, .null, .int 0, .int 0]))] ++ w3 E q10 d14 (shp0 f1)) (v := []) C (ok_X2_init) 0 gX4_init_X2_init rfl (by decide +kernel) (by decide +kernel) (by decide +kernel) rfl (by decide +kernel) ⟨Nat.le_of_ble_eq_true rfl, Nat.le_of_ble_eq_true rfl⟩ rfl (Nat.le_of_ble_eq_true rfl) ⟨Nat.le_of_ble_eq_true rfl, Nat.le_of_ble_eq_true rfl⟩ rfl rfl dX4_init_25 (fun d25 => ?_)
  refine XW_eq (w2 := [(o, .inr (4, [.int p1, .ref q10, .null, .int 0, .int 0]))] ++ w3 E q10 d14 (shp0 f1) ++ w2 E q21 d25 ob0) (by simp only [List.append_nil]) ?_
  refine xw_putF (w' := [(o, .inr (4, [.int p1, .ref q10, .ref q21, .int 0, .int 0]))] ++ w3 E q10 d14 (shp0 f1) ++ w2 E q21 d25 ob0) C in4 tyX4 tyX4_ok nmX4 0 rfl rfl 2 (by decide) m25 rfl rfl hmn rfl rfl rfl (Nat.le_of_ble_eq_true rfl) rfl dX4_init_28 ?_
  refine xw_aload_n C dX4_init_31 rfl 0 rfl ?_
  refine xw_iconst C (0) dX4_init_32 (by decide) ?_
  refine xw_put (w' := [(o, .inr (4, [.int p1, .ref q10, .ref q21, .int (0), .int 0]))] ++ w3 E q10 d14 (shp0 f1) ++ w2 E q21 d25 ob0) C in4 tyX4 tyX4_ok nmX4 0 rfl rfl 3 (by decide) m29 rfl rfl rfl (Nat.le_of_ble_eq_true rfl) rfl dX4_init_33 ?_
  refine xw_aload_n C dX4_init_36 rfl 0 rfl ?_
  refine xw_iconst C (0) dX4_init_37 (by decide) ?_
  refine xw_put (w' := [(o, .inr (4, [.int p1, .ref q10, .ref q21, .int (0), .int (0)]))] ++ w3 E q10 d14 (shp0 f1) ++ w2 E q21 d25 ob0) C in4 tyX4 tyX4_ok nmX4 0 rfl rfl 4 (by decide) m32 rfl rfl rfl (Nat.le_of_ble_eq_true rfl) rfl dX4_init_38 ?_
  exact xw_vretM (q10, q21, d14, d25) C hr rfl dX4_init_41
abbrev rmX5_init : Room := { frames := 2, cells := 11, slots := 5859, locals := 32 }
set_option maxHeartbeats 4000000 in
set_option maxRecDepth 100000 in
theorem ok_X5_init {l : Launch} {E : En} {o : Nat} : CM l yX5_init wsX5_init rmX5_init [.ref o] E [(o, .inr (5, [.null, .int 0, .null, .int 0, .null, .null, .null]))] (fun q : (Nat → Nat) × Nat × (Nat → Nat) × Nat × (Nat → Nat) => w5 E o q.1 q.2.1 q.2.2.2.1 ob0 (fun _ => none) ++ w1 E q.2.1 q.2.2.1 ob0 ++ w0 E q.2.2.2.1 q.2.2.2.2 (ob_i ob0 6 (-1))) := by
  refine xc_M (by decide) rfl (Nat.le_of_ble_eq_true rfl) [(0, .ref o)] rfl (fun p e s m below meth c A C hr hmn => ?_)
  have in0 : ∀ w ∈ wsX00, w ∈ wsX5_init := by decide +kernel
  have in1 : ∀ w ∈ wsX10, w ∈ wsX5_init := by decide +kernel
  have in5 : ∀ w ∈ wsX50, w ∈ wsX5_init := by decide +kernel
  have m11 : Cond.fieldLink RX5 11 "TurningTrees" "trees" "[LTurningTrees$Tree;" ∈ wsX5_init := by decide +kernel
  have m15 : Cond.fieldLink RX5 15 "TurningTrees" "treesMade" "I" ∈ wsX5_init := by decide +kernel
  have m19 : Cond.fieldLink RX5 19 "TurningTrees" "keptDepths" "[I" ∈ wsX5_init := by decide +kernel
  have m23 : Cond.fieldLink RX5 23 "TurningTrees" "keptMade" "I" ∈ wsX5_init := by decide +kernel
  have m26 : Cond.fieldLink RX5 26 "TurningTrees" "marks" "[I" ∈ wsX5_init := by decide +kernel
  have m32 : Cond.fieldLink RX5 32 "TurningTrees" "page" "LTurningTrees$Page;" ∈ wsX5_init := by decide +kernel
  have m39 : Cond.fieldLink RX5 39 "TurningTrees" "bestStill" "LTurningTrees$BestStill;" ∈ wsX5_init := by decide +kernel
  refine xw_aload_n C dX5_init_0 rfl 0 rfl ?_
  refine xw_obj C (by decide +kernel) (by decide +kernel) (by decide +kernel) (Nat.le_of_ble_eq_true rfl) (Nat.le_of_ble_eq_true rfl) dX5_init_1 ?_
  refine xw_aload_n C dX5_init_4 rfl 0 rfl ?_
  refine xw_bipush C (8) dX5_init_5 (by decide) ?_
  refine xw_newq C (by decide +kernel) 8 (by decide) (by decide) (by decide) ⟨Nat.le_of_ble_eq_true rfl, Nat.le_of_ble_eq_true rfl⟩ dX5_init_7 (fun q7 => ?_)
  refine xw_putF (w' := [(o, .inr (5, [.ref q7, .int 0, .null, .int 0, .null, .null, .null])), (q7, .inl (E.2.2.2, 8, .inr (.inr (.inr (.inr (fun _ => none))))))]) C in5 tyX5 tyX5_ok nmX5 0 rfl rfl 0 (by decide) m11 rfl rfl hmn rfl rfl rfl (Nat.le_of_ble_eq_true rfl) rfl dX5_init_10 ?_
  refine xw_aload_n C dX5_init_13 rfl 0 rfl ?_
  refine xw_iconst C (0) dX5_init_14 (by decide) ?_
  refine xw_put (w' := [(o, .inr (5, [.ref q7, .int (0), .null, .int 0, .null, .null, .null])), (q7, .inl (E.2.2.2, 8, .inr (.inr (.inr (.inr (fun _ => none))))))]) C in5 tyX5 tyX5_ok nmX5 0 rfl rfl 1 (by decide) m15 rfl rfl rfl (Nat.le_of_ble_eq_true rfl) rfl dX5_init_15 ?_
  refine xw_aload_n C dX5_init_18 rfl 0 rfl ?_
  refine xw_sipush C (1280) dX5_init_19 (by decide) ?_
  refine xw_newi C (by decide +kernel) 1280 (by decide) (by decide) (by decide) ⟨Nat.le_of_ble_eq_true rfl, Nat.le_of_ble_eq_true rfl⟩ dX5_init_22 (fun q22 => ?_)
  refine xw_putF (w' := [(o, .inr (5, [.ref q7, .int (0), .ref q22, .int 0, .null, .null, .null])), (q7, .inl (E.2.2.2, 8, .inr (.inr (.inr (.inr (fun _ => none)))))), (q22, .inl (E.2.1, 1280, .inl (fun _ => 0)))]) C in5 tyX5 tyX5_ok nmX5 0 rfl rfl 2 (by decide) m19 rfl rfl hmn rfl rfl rfl (Nat.le_of_ble_eq_true rfl) rfl dX5_init_24 ?_
  refine xw_aload_n C dX5_init_27 rfl 0 rfl ?_
  refine xw_iconst C (0) dX5_init_28 (by decide) ?_
  refine xw_put (w' := [(o, .inr (5, [.ref q7, .int (0), .ref q22, .int (0), .null, .null, .null])), (q7, .inl (E.2.2.2, 8, .inr (.inr (.inr (.inr (fun _ => none)))))), (q22, .inl (E.2.1, 1280, .inl (fun _ => 0)))]) C in5 tyX5 tyX5_ok nmX5 0 rfl rfl 3 (by decide) m23 rfl rfl rfl (Nat.le_of_ble_eq_true rfl) rfl dX5_init_29 ?_
  refine xw_aload_n C dX5_init_32 rfl 0 rfl ?_
  refine xw_bipush C (64) dX5_init_33 (by decide) ?_
  refine xw_newi C (by decide +kernel) 64 (by decide) (by decide) (by decide) ⟨Nat.le_of_ble_eq_true rfl, Nat.le_of_ble_eq_true rfl⟩ dX5_init_35 (fun q35 => ?_)
  refine xw_putF (w' := [(o, .inr (5, [.ref q7, .int (0), .ref q22, .int (0), .ref q35, .null, .null])), (q7, .inl (E.2.2.2, 8, .inr (.inr (.inr (.inr (fun _ => none)))))), (q22, .inl (E.2.1, 1280, .inl (fun _ => 0))), (q35, .inl (E.2.1, 64, .inl (fun _ => 0)))]) C in5 tyX5 tyX5_ok nmX5 0 rfl rfl 4 (by decide) m26 rfl rfl hmn rfl rfl rfl (Nat.le_of_ble_eq_true rfl) rfl dX5_init_37 ?_
  refine xw_aload_n C dX5_init_40 rfl 0 rfl ?_
  refine xw_new (ci := 1) (fs := [.null, .int 0]) C in1 tyX1 tyX1_ok (by decide +kernel) (by decide +kernel) (by decide +kernel) rfl (fun j hj => by rcases (show j = 0 ∨ j = 1 by omega) with rfl | rfl <;> rfl) ⟨Nat.le_of_ble_eq_true rfl, Nat.le_of_ble_eq_true rfl⟩ dX5_init_41 (fun q41 => ?_)
  refine xw_dup C dX5_init_44 rfl ?_
  refine xw_callM (u := [(o, .inr (5, [.ref q7, .int (0), .ref q22, .int (0), .ref q35, .null, .null])), (q7, .inl (E.2.2.2, 8, .inr (.inr (.inr (.inr (fun _ => none)))))), (q22, .inl (E.2.1, 1280, .inl (fun _ => 0))), (q35, .inl (E.2.1, 64, .inl (fun _ => 0)))]) (v := []) C (ok_X1_init) 0 gX5_init_X1_init rfl (by decide +kernel) (by decide +kernel) (by decide +kernel) rfl (by decide +kernel) ⟨Nat.le_of_ble_eq_true rfl, Nat.le_of_ble_eq_true rfl⟩ rfl (Nat.le_of_ble_eq_true rfl) ⟨Nat.le_of_ble_eq_true rfl, Nat.le_of_ble_eq_true rfl⟩ rfl rfl dX5_init_45 (fun d45 => ?_)
  refine XW_eq (w2 := [(o, .inr (5, [.ref q7, .int (0), .ref q22, .int (0), .ref q35, .null, .null])), (q7, .inl (E.2.2.2, 8, .inr (.inr (.inr (.inr (fun _ => none)))))), (q22, .inl (E.2.1, 1280, .inl (fun _ => 0))), (q35, .inl (E.2.1, 64, .inl (fun _ => 0)))] ++ w1 E q41 d45 ob0) (by simp only [List.append_nil]) ?_
  refine xw_putF (w' := [(o, .inr (5, [.ref q7, .int (0), .ref q22, .int (0), .ref q35, .ref q41, .null])), (q7, .inl (E.2.2.2, 8, .inr (.inr (.inr (.inr (fun _ => none)))))), (q22, .inl (E.2.1, 1280, .inl (fun _ => 0))), (q35, .inl (E.2.1, 64, .inl (fun _ => 0)))] ++ w1 E q41 d45 ob0) C in5 tyX5 tyX5_ok nmX5 0 rfl rfl 5 (by decide) m32 rfl rfl hmn rfl rfl rfl (Nat.le_of_ble_eq_true rfl) rfl dX5_init_48 ?_
  refine xw_aload_n C dX5_init_51 rfl 0 rfl ?_
  refine xw_new (ci := 0) (fs := [.null, .null, .null, .null, .null, .int 0, .int 0]) C in0 tyX0 tyX0_ok (by decide +kernel) (by decide +kernel) (by decide +kernel) rfl (fun j hj => by rcases (show j = 0 ∨ j = 1 ∨ j = 2 ∨ j = 3 ∨ j = 4 ∨ j = 5 ∨ j = 6 by omega) with rfl | rfl | rfl | rfl | rfl | rfl | rfl <;> rfl) ⟨Nat.le_of_ble_eq_true rfl, Nat.le_of_ble_eq_true rfl⟩ dX5_init_52 (fun q52 => ?_)
  refine xw_dup C dX5_init_55 rfl ?_
  refine xw_callM (u := [(o, .inr (5, [.ref q7, .int (0), .ref q22, .int (0), .ref q35, .ref q41, .null])), (q7, .inl (E.2.2.2, 8, .inr (.inr (.inr (.inr (fun _ => none)))))), (q22, .inl (E.2.1, 1280, .inl (fun _ => 0))), (q35, .inl (E.2.1, 64, .inl (fun _ => 0)))] ++ w1 E q41 d45 ob0) (v := []) C (ok_X0_init) 0 gX5_init_X0_init rfl (by decide +kernel) (by decide +kernel) (by decide +kernel) rfl (by decide +kernel) ⟨Nat.le_of_ble_eq_true rfl, Nat.le_of_ble_eq_true rfl⟩ rfl (Nat.le_of_ble_eq_true rfl) ⟨Nat.le_of_ble_eq_true rfl, Nat.le_of_ble_eq_true rfl⟩ rfl rfl dX5_init_56 (fun d56 => ?_)
  refine XW_eq (w2 := [(o, .inr (5, [.ref q7, .int (0), .ref q22, .int (0), .ref q35, .ref q41, .null])), (q7, .inl (E.2.2.2, 8, .inr (.inr (.inr (.inr (fun _ => none)))))), (q22, .inl (E.2.1, 1280, .inl (fun _ => 0))), (q35, .inl (E.2.1, 64, .inl (fun _ => 0)))] ++ w1 E q41 d45 ob0 ++ w0 E q52 d56 (ob_i ob0 6 (-1))) (by simp only [List.append_nil]) ?_
  refine xw_putF (w' := [(o, .inr (5, [.ref q7, .int (0), .ref q22, .int (0), .ref q35, .ref q41, .ref q52])), (q7, .inl (E.2.2.2, 8, .inr (.inr (.inr (.inr (fun _ => none)))))), (q22, .inl (E.2.1, 1280, .inl (fun _ => 0))), (q35, .inl (E.2.1, 64, .inl (fun _ => 0)))] ++ w1 E q41 d45 ob0 ++ w0 E q52 d56 (ob_i ob0 6 (-1))) C in5 tyX5 tyX5_ok nmX5 0 rfl rfl 6 (by decide) m39 rfl rfl hmn rfl rfl rfl (Nat.le_of_ble_eq_true rfl) rfl dX5_init_59 ?_
  exact xw_vretM ((fun k => if k = 0 then q7 else if k = 2 then q22 else q35), q41, d45, q52, d56) C hr rfl dX5_init_62
abbrev rmX6_init : Room := { frames := 1, cells := 22, slots := 13212, locals := 12 }
set_option maxHeartbeats 4000000 in
set_option maxRecDepth 100000 in
theorem ok_X6_init {l : Launch} {E : En} {o : Nat} : CM l yX6_init wsX6_init rmX6_init [.ref o] E [(o, .inr (6, [.int 0, .int 0, .null, .null, .null, .null, .null, .null, .null, .null, .null, .null, .null, .null, .null, .int 0, .int 0, .int 0, .null, .null, .null, .null, .null, .null, .null, .null, .int 0, .null]))] (fun q : Nat → Nat => w6 E o q ob0) := by
  refine xc_M (by decide) rfl (Nat.le_of_ble_eq_true rfl) [(0, .ref o)] rfl (fun p e s m below meth c A C hr hmn => ?_)
  have in6 : ∀ w ∈ wsX60, w ∈ wsX6_init := by decide +kernel
  have m7 : Cond.fieldLink RX6 7 "TurningTreesModel" "kind" "[I" ∈ wsX6_init := by decide +kernel
  have m13 : Cond.fieldLink RX6 13 "TurningTreesModel" "root" "[I" ∈ wsX6_init := by decide +kernel
  have m16 : Cond.fieldLink RX6 16 "TurningTreesModel" "above" "[I" ∈ wsX6_init := by decide +kernel
  have m19 : Cond.fieldLink RX6 19 "TurningTreesModel" "left" "[I" ∈ wsX6_init := by decide +kernel
  have m22 : Cond.fieldLink RX6 22 "TurningTreesModel" "right" "[I" ∈ wsX6_init := by decide +kernel
  have m25 : Cond.fieldLink RX6 25 "TurningTreesModel" "isIn" "[Z" ∈ wsX6_init := by decide +kernel
  have m29 : Cond.fieldLink RX6 29 "TurningTreesModel" "many" "[I" ∈ wsX6_init := by decide +kernel
  have m32 : Cond.fieldLink RX6 32 "TurningTreesModel" "turns" "[I" ∈ wsX6_init := by decide +kernel
  have m35 : Cond.fieldLink RX6 35 "TurningTreesModel" "costs" "[I" ∈ wsX6_init := by decide +kernel
  have m38 : Cond.fieldLink RX6 38 "TurningTreesModel" "most" "[I" ∈ wsX6_init := by decide +kernel
  have m41 : Cond.fieldLink RX6 41 "TurningTreesModel" "asks" "[I" ∈ wsX6_init := by decide +kernel
  have m44 : Cond.fieldLink RX6 44 "TurningTreesModel" "row" "[I" ∈ wsX6_init := by decide +kernel
  have m47 : Cond.fieldLink RX6 47 "TurningTreesModel" "sorted" "[I" ∈ wsX6_init := by decide +kernel
  have m50 : Cond.fieldLink RX6 50 "TurningTreesModel" "draft" "[I" ∈ wsX6_init := by decide +kernel
  have m53 : Cond.fieldLink RX6 53 "TurningTreesModel" "often" "[I" ∈ wsX6_init := by decide +kernel
  have m56 : Cond.fieldLink RX6 56 "TurningTreesModel" "least" "[I" ∈ wsX6_init := by decide +kernel
  have m59 : Cond.fieldLink RX6 59 "TurningTreesModel" "best" "[I" ∈ wsX6_init := by decide +kernel
  have m62 : Cond.fieldLink RX6 62 "TurningTreesModel" "touchedAt" "[I" ∈ wsX6_init := by decide +kernel
  have m65 : Cond.fieldLink RX6 65 "TurningTreesModel" "isTouched" "[Z" ∈ wsX6_init := by decide +kernel
  have m68 : Cond.fieldLink RX6 68 "TurningTreesModel" "pageOf" "[I" ∈ wsX6_init := by decide +kernel
  have m71 : Cond.fieldLink RX6 71 "TurningTreesModel" "line" "[I" ∈ wsX6_init := by decide +kernel
  have m74 : Cond.fieldLink RX6 74 "TurningTreesModel" "keptDepth" "[I" ∈ wsX6_init := by decide +kernel
  refine xw_aload_n C dX6_init_0 rfl 0 rfl ?_
  refine xw_obj C (by decide +kernel) (by decide +kernel) (by decide +kernel) (Nat.le_of_ble_eq_true rfl) (Nat.le_of_ble_eq_true rfl) dX6_init_1 ?_
  refine xw_aload_n C dX6_init_4 rfl 0 rfl ?_
  refine xw_bipush C (8) dX6_init_5 (by decide) ?_
  refine xw_newi C (by decide +kernel) 8 (by decide) (by decide) (by decide) ⟨Nat.le_of_ble_eq_true rfl, Nat.le_of_ble_eq_true rfl⟩ dX6_init_7 (fun q7 => ?_)
  refine xw_putF (w' := [(o, .inr (6, [.int 0, .int 0, .ref q7, .null, .null, .null, .null, .null, .null, .null, .null, .null, .null, .null, .null, .int 0, .int 0, .int 0, .null, .null, .null, .null, .null, .null, .null, .null, .int 0, .null])), (q7, .inl (E.2.1, 8, .inl (fun _ => 0)))]) C in6 tyX6 tyX6_ok nmX6 0 rfl rfl 2 (by decide) m7 rfl rfl hmn rfl rfl rfl (Nat.le_of_ble_eq_true rfl) rfl dX6_init_9 ?_
  refine xw_aload_n C dX6_init_12 rfl 0 rfl ?_
  refine xw_bipush C (8) dX6_init_13 (by decide) ?_
  refine xw_newi C (by decide +kernel) 8 (by decide) (by decide) (by decide) ⟨Nat.le_of_ble_eq_true rfl, Nat.le_of_ble_eq_true rfl⟩ dX6_init_15 (fun q15 => ?_)
  refine xw_putF (w' := [(o, .inr (6, [.int 0, .int 0, .ref q7, .ref q15, .null, .null, .null, .null, .null, .null, .null, .null, .null, .null, .null, .int 0, .int 0, .int 0, .null, .null, .null, .null, .null, .null, .null, .null, .int 0, .null])), (q7, .inl (E.2.1, 8, .inl (fun _ => 0))), (q15, .inl (E.2.1, 8, .inl (fun _ => 0)))]) C in6 tyX6 tyX6_ok nmX6 0 rfl rfl 3 (by decide) m13 rfl rfl hmn rfl rfl rfl (Nat.le_of_ble_eq_true rfl) rfl dX6_init_17 ?_
  refine xw_aload_n C dX6_init_20 rfl 0 rfl ?_
  refine xw_sipush C (512) dX6_init_21 (by decide) ?_
  refine xw_newi C (by decide +kernel) 512 (by decide) (by decide) (by decide) ⟨Nat.le_of_ble_eq_true rfl, Nat.le_of_ble_eq_true rfl⟩ dX6_init_24 (fun q24 => ?_)
  refine xw_putF (w' := [(o, .inr (6, [.int 0, .int 0, .ref q7, .ref q15, .ref q24, .null, .null, .null, .null, .null, .null, .null, .null, .null, .null, .int 0, .int 0, .int 0, .null, .null, .null, .null, .null, .null, .null, .null, .int 0, .null])), (q7, .inl (E.2.1, 8, .inl (fun _ => 0))), (q15, .inl (E.2.1, 8, .inl (fun _ => 0))), (q24, .inl (E.2.1, 512, .inl (fun _ => 0)))]) C in6 tyX6 tyX6_ok nmX6 0 rfl rfl 4 (by decide) m16 rfl rfl hmn rfl rfl rfl (Nat.le_of_ble_eq_true rfl) rfl dX6_init_26 ?_
  refine xw_aload_n C dX6_init_29 rfl 0 rfl ?_
  refine xw_sipush C (512) dX6_init_30 (by decide) ?_
  refine xw_newi C (by decide +kernel) 512 (by decide) (by decide) (by decide) ⟨Nat.le_of_ble_eq_true rfl, Nat.le_of_ble_eq_true rfl⟩ dX6_init_33 (fun q33 => ?_)
  refine xw_putF (w' := [(o, .inr (6, [.int 0, .int 0, .ref q7, .ref q15, .ref q24, .ref q33, .null, .null, .null, .null, .null, .null, .null, .null, .null, .int 0, .int 0, .int 0, .null, .null, .null, .null, .null, .null, .null, .null, .int 0, .null])), (q7, .inl (E.2.1, 8, .inl (fun _ => 0))), (q15, .inl (E.2.1, 8, .inl (fun _ => 0))), (q24, .inl (E.2.1, 512, .inl (fun _ => 0))), (q33, .inl (E.2.1, 512, .inl (fun _ => 0)))]) C in6 tyX6 tyX6_ok nmX6 0 rfl rfl 5 (by decide) m19 rfl rfl hmn rfl rfl rfl (Nat.le_of_ble_eq_true rfl) rfl dX6_init_35 ?_
  refine xw_aload_n C dX6_init_38 rfl 0 rfl ?_
  refine xw_sipush C (512) dX6_init_39 (by decide) ?_
  refine xw_newi C (by decide +kernel) 512 (by decide) (by decide) (by decide) ⟨Nat.le_of_ble_eq_true rfl, Nat.le_of_ble_eq_true rfl⟩ dX6_init_42 (fun q42 => ?_)
  refine xw_putF (w' := [(o, .inr (6, [.int 0, .int 0, .ref q7, .ref q15, .ref q24, .ref q33, .ref q42, .null, .null, .null, .null, .null, .null, .null, .null, .int 0, .int 0, .int 0, .null, .null, .null, .null, .null, .null, .null, .null, .int 0, .null])), (q7, .inl (E.2.1, 8, .inl (fun _ => 0))), (q15, .inl (E.2.1, 8, .inl (fun _ => 0))), (q24, .inl (E.2.1, 512, .inl (fun _ => 0))), (q33, .inl (E.2.1, 512, .inl (fun _ => 0))), (q42, .inl (E.2.1, 512, .inl (fun _ => 0)))]) C in6 tyX6 tyX6_ok nmX6 0 rfl rfl 6 (by decide) m22 rfl rfl hmn rfl rfl rfl (Nat.le_of_ble_eq_true rfl) rfl dX6_init_44 ?_
  refine xw_aload_n C dX6_init_47 rfl 0 rfl ?_
  refine xw_sipush C (512) dX6_init_48 (by decide) ?_
  refine xw_newz C (by decide +kernel) 512 (by decide) (by decide) (by decide) ⟨Nat.le_of_ble_eq_true rfl, Nat.le_of_ble_eq_true rfl⟩ dX6_init_51 (fun q51 => ?_)
  refine xw_putF (w' := [(o, .inr (6, [.int 0, .int 0, .ref q7, .ref q15, .ref q24, .ref q33, .ref q42, .ref q51, .null, .null, .null, .null, .null, .null, .null, .int 0, .int 0, .int 0, .null, .null, .null, .null, .null, .null, .null, .null, .int 0, .null])), (q7, .inl (E.2.1, 8, .inl (fun _ => 0))), (q15, .inl (E.2.1, 8, .inl (fun _ => 0))), (q24, .inl (E.2.1, 512, .inl (fun _ => 0))), (q33, .inl (E.2.1, 512, .inl (fun _ => 0))), (q42, .inl (E.2.1, 512, .inl (fun _ => 0))), (q51, .inl (E.2.2.1, 512, .inl (fun _ => 0)))]) C in6 tyX6 tyX6_ok nmX6 0 rfl rfl 7 (by decide) m25 rfl rfl hmn rfl rfl rfl (Nat.le_of_ble_eq_true rfl) rfl dX6_init_53 ?_
  refine xw_aload_n C dX6_init_56 rfl 0 rfl ?_
  refine xw_bipush C (8) dX6_init_57 (by decide) ?_
  refine xw_newi C (by decide +kernel) 8 (by decide) (by decide) (by decide) ⟨Nat.le_of_ble_eq_true rfl, Nat.le_of_ble_eq_true rfl⟩ dX6_init_59 (fun q59 => ?_)
  refine xw_putF (w' := [(o, .inr (6, [.int 0, .int 0, .ref q7, .ref q15, .ref q24, .ref q33, .ref q42, .ref q51, .ref q59, .null, .null, .null, .null, .null, .null, .int 0, .int 0, .int 0, .null, .null, .null, .null, .null, .null, .null, .null, .int 0, .null])), (q7, .inl (E.2.1, 8, .inl (fun _ => 0))), (q15, .inl (E.2.1, 8, .inl (fun _ => 0))), (q24, .inl (E.2.1, 512, .inl (fun _ => 0))), (q33, .inl (E.2.1, 512, .inl (fun _ => 0))), (q42, .inl (E.2.1, 512, .inl (fun _ => 0))), (q51, .inl (E.2.2.1, 512, .inl (fun _ => 0))), (q59, .inl (E.2.1, 8, .inl (fun _ => 0)))]) C in6 tyX6 tyX6_ok nmX6 0 rfl rfl 8 (by decide) m29 rfl rfl hmn rfl rfl rfl (Nat.le_of_ble_eq_true rfl) rfl dX6_init_61 ?_
  refine xw_aload_n C dX6_init_64 rfl 0 rfl ?_
  refine xw_bipush C (8) dX6_init_65 (by decide) ?_
  refine xw_newi C (by decide +kernel) 8 (by decide) (by decide) (by decide) ⟨Nat.le_of_ble_eq_true rfl, Nat.le_of_ble_eq_true rfl⟩ dX6_init_67 (fun q67 => ?_)
  refine xw_putF (w' := [(o, .inr (6, [.int 0, .int 0, .ref q7, .ref q15, .ref q24, .ref q33, .ref q42, .ref q51, .ref q59, .ref q67, .null, .null, .null, .null, .null, .int 0, .int 0, .int 0, .null, .null, .null, .null, .null, .null, .null, .null, .int 0, .null])), (q7, .inl (E.2.1, 8, .inl (fun _ => 0))), (q15, .inl (E.2.1, 8, .inl (fun _ => 0))), (q24, .inl (E.2.1, 512, .inl (fun _ => 0))), (q33, .inl (E.2.1, 512, .inl (fun _ => 0))), (q42, .inl (E.2.1, 512, .inl (fun _ => 0))), (q51, .inl (E.2.2.1, 512, .inl (fun _ => 0))), (q59, .inl (E.2.1, 8, .inl (fun _ => 0))), (q67, .inl (E.2.1, 8, .inl (fun _ => 0)))]) C in6 tyX6 tyX6_ok nmX6 0 rfl rfl 9 (by decide) m32 rfl rfl hmn rfl rfl rfl (Nat.le_of_ble_eq_true rfl) rfl dX6_init_69 ?_
  refine xw_aload_n C dX6_init_72 rfl 0 rfl ?_
  refine xw_bipush C (8) dX6_init_73 (by decide) ?_
  refine xw_newi C (by decide +kernel) 8 (by decide) (by decide) (by decide) ⟨Nat.le_of_ble_eq_true rfl, Nat.le_of_ble_eq_true rfl⟩ dX6_init_75 (fun q75 => ?_)
  refine xw_putF (w' := [(o, .inr (6, [.int 0, .int 0, .ref q7, .ref q15, .ref q24, .ref q33, .ref q42, .ref q51, .ref q59, .ref q67, .ref q75, .null, .null, .null, .null, .int 0, .int 0, .int 0, .null, .null, .null, .null, .null, .null, .null, .null, .int 0, .null])), (q7, .inl (E.2.1, 8, .inl (fun _ => 0))), (q15, .inl (E.2.1, 8, .inl (fun _ => 0))), (q24, .inl (E.2.1, 512, .inl (fun _ => 0))), (q33, .inl (E.2.1, 512, .inl (fun _ => 0))), (q42, .inl (E.2.1, 512, .inl (fun _ => 0))), (q51, .inl (E.2.2.1, 512, .inl (fun _ => 0))), (q59, .inl (E.2.1, 8, .inl (fun _ => 0))), (q67, .inl (E.2.1, 8, .inl (fun _ => 0))), (q75, .inl (E.2.1, 8, .inl (fun _ => 0)))]) C in6 tyX6 tyX6_ok nmX6 0 rfl rfl 10 (by decide) m35 rfl rfl hmn rfl rfl rfl (Nat.le_of_ble_eq_true rfl) rfl dX6_init_77 ?_
  refine xw_aload_n C dX6_init_80 rfl 0 rfl ?_
  refine xw_bipush C (8) dX6_init_81 (by decide) ?_
  refine xw_newi C (by decide +kernel) 8 (by decide) (by decide) (by decide) ⟨Nat.le_of_ble_eq_true rfl, Nat.le_of_ble_eq_true rfl⟩ dX6_init_83 (fun q83 => ?_)
  refine xw_putF (w' := [(o, .inr (6, [.int 0, .int 0, .ref q7, .ref q15, .ref q24, .ref q33, .ref q42, .ref q51, .ref q59, .ref q67, .ref q75, .ref q83, .null, .null, .null, .int 0, .int 0, .int 0, .null, .null, .null, .null, .null, .null, .null, .null, .int 0, .null])), (q7, .inl (E.2.1, 8, .inl (fun _ => 0))), (q15, .inl (E.2.1, 8, .inl (fun _ => 0))), (q24, .inl (E.2.1, 512, .inl (fun _ => 0))), (q33, .inl (E.2.1, 512, .inl (fun _ => 0))), (q42, .inl (E.2.1, 512, .inl (fun _ => 0))), (q51, .inl (E.2.2.1, 512, .inl (fun _ => 0))), (q59, .inl (E.2.1, 8, .inl (fun _ => 0))), (q67, .inl (E.2.1, 8, .inl (fun _ => 0))), (q75, .inl (E.2.1, 8, .inl (fun _ => 0))), (q83, .inl (E.2.1, 8, .inl (fun _ => 0)))]) C in6 tyX6 tyX6_ok nmX6 0 rfl rfl 11 (by decide) m38 rfl rfl hmn rfl rfl rfl (Nat.le_of_ble_eq_true rfl) rfl dX6_init_85 ?_
  refine xw_aload_n C dX6_init_88 rfl 0 rfl ?_
  refine xw_bipush C (8) dX6_init_89 (by decide) ?_
  refine xw_newi C (by decide +kernel) 8 (by decide) (by decide) (by decide) ⟨Nat.le_of_ble_eq_true rfl, Nat.le_of_ble_eq_true rfl⟩ dX6_init_91 (fun q91 => ?_)
  refine xw_putF (w' := [(o, .inr (6, [.int 0, .int 0, .ref q7, .ref q15, .ref q24, .ref q33, .ref q42, .ref q51, .ref q59, .ref q67, .ref q75, .ref q83, .ref q91, .null, .null, .int 0, .int 0, .int 0, .null, .null, .null, .null, .null, .null, .null, .null, .int 0, .null])), (q7, .inl (E.2.1, 8, .inl (fun _ => 0))), (q15, .inl (E.2.1, 8, .inl (fun _ => 0))), (q24, .inl (E.2.1, 512, .inl (fun _ => 0))), (q33, .inl (E.2.1, 512, .inl (fun _ => 0))), (q42, .inl (E.2.1, 512, .inl (fun _ => 0))), (q51, .inl (E.2.2.1, 512, .inl (fun _ => 0))), (q59, .inl (E.2.1, 8, .inl (fun _ => 0))), (q67, .inl (E.2.1, 8, .inl (fun _ => 0))), (q75, .inl (E.2.1, 8, .inl (fun _ => 0))), (q83, .inl (E.2.1, 8, .inl (fun _ => 0))), (q91, .inl (E.2.1, 8, .inl (fun _ => 0)))]) C in6 tyX6 tyX6_ok nmX6 0 rfl rfl 12 (by decide) m41 rfl rfl hmn rfl rfl rfl (Nat.le_of_ble_eq_true rfl) rfl dX6_init_93 ?_
  refine xw_aload_n C dX6_init_96 rfl 0 rfl ?_
  refine xw_sipush C (800) dX6_init_97 (by decide) ?_
  refine xw_newi C (by decide +kernel) 800 (by decide) (by decide) (by decide) ⟨Nat.le_of_ble_eq_true rfl, Nat.le_of_ble_eq_true rfl⟩ dX6_init_100 (fun q100 => ?_)
  refine xw_putF (w' := [(o, .inr (6, [.int 0, .int 0, .ref q7, .ref q15, .ref q24, .ref q33, .ref q42, .ref q51, .ref q59, .ref q67, .ref q75, .ref q83, .ref q91, .ref q100, .null, .int 0, .int 0, .int 0, .null, .null, .null, .null, .null, .null, .null, .null, .int 0, .null])), (q7, .inl (E.2.1, 8, .inl (fun _ => 0))), (q15, .inl (E.2.1, 8, .inl (fun _ => 0))), (q24, .inl (E.2.1, 512, .inl (fun _ => 0))), (q33, .inl (E.2.1, 512, .inl (fun _ => 0))), (q42, .inl (E.2.1, 512, .inl (fun _ => 0))), (q51, .inl (E.2.2.1, 512, .inl (fun _ => 0))), (q59, .inl (E.2.1, 8, .inl (fun _ => 0))), (q67, .inl (E.2.1, 8, .inl (fun _ => 0))), (q75, .inl (E.2.1, 8, .inl (fun _ => 0))), (q83, .inl (E.2.1, 8, .inl (fun _ => 0))), (q91, .inl (E.2.1, 8, .inl (fun _ => 0))), (q100, .inl (E.2.1, 800, .inl (fun _ => 0)))]) C in6 tyX6 tyX6_ok nmX6 0 rfl rfl 13 (by decide) m44 rfl rfl hmn rfl rfl rfl (Nat.le_of_ble_eq_true rfl) rfl dX6_init_102 ?_
  refine xw_aload_n C dX6_init_105 rfl 0 rfl ?_
  refine xw_bipush C (64) dX6_init_106 (by decide) ?_
  refine xw_newi C (by decide +kernel) 64 (by decide) (by decide) (by decide) ⟨Nat.le_of_ble_eq_true rfl, Nat.le_of_ble_eq_true rfl⟩ dX6_init_108 (fun q108 => ?_)
  refine xw_putF (w' := [(o, .inr (6, [.int 0, .int 0, .ref q7, .ref q15, .ref q24, .ref q33, .ref q42, .ref q51, .ref q59, .ref q67, .ref q75, .ref q83, .ref q91, .ref q100, .ref q108, .int 0, .int 0, .int 0, .null, .null, .null, .null, .null, .null, .null, .null, .int 0, .null])), (q7, .inl (E.2.1, 8, .inl (fun _ => 0))), (q15, .inl (E.2.1, 8, .inl (fun _ => 0))), (q24, .inl (E.2.1, 512, .inl (fun _ => 0))), (q33, .inl (E.2.1, 512, .inl (fun _ => 0))), (q42, .inl (E.2.1, 512, .inl (fun _ => 0))), (q51, .inl (E.2.2.1, 512, .inl (fun _ => 0))), (q59, .inl (E.2.1, 8, .inl (fun _ => 0))), (q67, .inl (E.2.1, 8, .inl (fun _ => 0))), (q75, .inl (E.2.1, 8, .inl (fun _ => 0))), (q83, .inl (E.2.1, 8, .inl (fun _ => 0))), (q91, .inl (E.2.1, 8, .inl (fun _ => 0))), (q100, .inl (E.2.1, 800, .inl (fun _ => 0))), (q108, .inl (E.2.1, 64, .inl (fun _ => 0)))]) C in6 tyX6 tyX6_ok nmX6 0 rfl rfl 14 (by decide) m47 rfl rfl hmn rfl rfl rfl (Nat.le_of_ble_eq_true rfl) rfl dX6_init_110 ?_
  refine xw_aload_n C dX6_init_113 rfl 0 rfl ?_
  refine xw_bipush C (64) dX6_init_114 (by decide) ?_
  refine xw_newi C (by decide +kernel) 64 (by decide) (by decide) (by decide) ⟨Nat.le_of_ble_eq_true rfl, Nat.le_of_ble_eq_true rfl⟩ dX6_init_116 (fun q116 => ?_)
  refine xw_putF (w' := [(o, .inr (6, [.int 0, .int 0, .ref q7, .ref q15, .ref q24, .ref q33, .ref q42, .ref q51, .ref q59, .ref q67, .ref q75, .ref q83, .ref q91, .ref q100, .ref q108, .int 0, .int 0, .int 0, .ref q116, .null, .null, .null, .null, .null, .null, .null, .int 0, .null])), (q7, .inl (E.2.1, 8, .inl (fun _ => 0))), (q15, .inl (E.2.1, 8, .inl (fun _ => 0))), (q24, .inl (E.2.1, 512, .inl (fun _ => 0))), (q33, .inl (E.2.1, 512, .inl (fun _ => 0))), (q42, .inl (E.2.1, 512, .inl (fun _ => 0))), (q51, .inl (E.2.2.1, 512, .inl (fun _ => 0))), (q59, .inl (E.2.1, 8, .inl (fun _ => 0))), (q67, .inl (E.2.1, 8, .inl (fun _ => 0))), (q75, .inl (E.2.1, 8, .inl (fun _ => 0))), (q83, .inl (E.2.1, 8, .inl (fun _ => 0))), (q91, .inl (E.2.1, 8, .inl (fun _ => 0))), (q100, .inl (E.2.1, 800, .inl (fun _ => 0))), (q108, .inl (E.2.1, 64, .inl (fun _ => 0))), (q116, .inl (E.2.1, 64, .inl (fun _ => 0)))]) C in6 tyX6 tyX6_ok nmX6 0 rfl rfl 18 (by decide) m50 rfl rfl hmn rfl rfl rfl (Nat.le_of_ble_eq_true rfl) rfl dX6_init_118 ?_
  refine xw_aload_n C dX6_init_121 rfl 0 rfl ?_
  refine xw_bipush C (64) dX6_init_122 (by decide) ?_
  refine xw_newi C (by decide +kernel) 64 (by decide) (by decide) (by decide) ⟨Nat.le_of_ble_eq_true rfl, Nat.le_of_ble_eq_true rfl⟩ dX6_init_124 (fun q124 => ?_)
  refine xw_putF (w' := [(o, .inr (6, [.int 0, .int 0, .ref q7, .ref q15, .ref q24, .ref q33, .ref q42, .ref q51, .ref q59, .ref q67, .ref q75, .ref q83, .ref q91, .ref q100, .ref q108, .int 0, .int 0, .int 0, .ref q116, .ref q124, .null, .null, .null, .null, .null, .null, .int 0, .null])), (q7, .inl (E.2.1, 8, .inl (fun _ => 0))), (q15, .inl (E.2.1, 8, .inl (fun _ => 0))), (q24, .inl (E.2.1, 512, .inl (fun _ => 0))), (q33, .inl (E.2.1, 512, .inl (fun _ => 0))), (q42, .inl (E.2.1, 512, .inl (fun _ => 0))), (q51, .inl (E.2.2.1, 512, .inl (fun _ => 0))), (q59, .inl (E.2.1, 8, .inl (fun _ => 0))), (q67, .inl (E.2.1, 8, .inl (fun _ => 0))), (q75, .inl (E.2.1, 8, .inl (fun _ => 0))), (q83, .inl (E.2.1, 8, .inl (fun _ => 0))), (q91, .inl (E.2.1, 8, .inl (fun _ => 0))), (q100, .inl (E.2.1, 800, .inl (fun _ => 0))), (q108, .inl (E.2.1, 64, .inl (fun _ => 0))), (q116, .inl (E.2.1, 64, .inl (fun _ => 0))), (q124, .inl (E.2.1, 64, .inl (fun _ => 0)))]) C in6 tyX6 tyX6_ok nmX6 0 rfl rfl 19 (by decide) m53 rfl rfl hmn rfl rfl rfl (Nat.le_of_ble_eq_true rfl) rfl dX6_init_126 ?_
  refine xw_aload_n C dX6_init_129 rfl 0 rfl ?_
  refine xw_sipush C (4290) dX6_init_130 (by decide) ?_
  refine xw_newi C (by decide +kernel) 4290 (by decide) (by decide) (by decide) ⟨Nat.le_of_ble_eq_true rfl, Nat.le_of_ble_eq_true rfl⟩ dX6_init_133 (fun q133 => ?_)
  refine xw_putF (w' := [(o, .inr (6, [.int 0, .int 0, .ref q7, .ref q15, .ref q24, .ref q33, .ref q42, .ref q51, .ref q59, .ref q67, .ref q75, .ref q83, .ref q91, .ref q100, .ref q108, .int 0, .int 0, .int 0, .ref q116, .ref q124, .ref q133, .null, .null, .null, .null, .null, .int 0, .null])), (q7, .inl (E.2.1, 8, .inl (fun _ => 0))), (q15, .inl (E.2.1, 8, .inl (fun _ => 0))), (q24, .inl (E.2.1, 512, .inl (fun _ => 0))), (q33, .inl (E.2.1, 512, .inl (fun _ => 0))), (q42, .inl (E.2.1, 512, .inl (fun _ => 0))), (q51, .inl (E.2.2.1, 512, .inl (fun _ => 0))), (q59, .inl (E.2.1, 8, .inl (fun _ => 0))), (q67, .inl (E.2.1, 8, .inl (fun _ => 0))), (q75, .inl (E.2.1, 8, .inl (fun _ => 0))), (q83, .inl (E.2.1, 8, .inl (fun _ => 0))), (q91, .inl (E.2.1, 8, .inl (fun _ => 0))), (q100, .inl (E.2.1, 800, .inl (fun _ => 0))), (q108, .inl (E.2.1, 64, .inl (fun _ => 0))), (q116, .inl (E.2.1, 64, .inl (fun _ => 0))), (q124, .inl (E.2.1, 64, .inl (fun _ => 0))), (q133, .inl (E.2.1, 4290, .inl (fun _ => 0)))]) C in6 tyX6 tyX6_ok nmX6 0 rfl rfl 20 (by decide) m56 rfl rfl hmn rfl rfl rfl (Nat.le_of_ble_eq_true rfl) rfl dX6_init_135 ?_
  refine xw_aload_n C dX6_init_138 rfl 0 rfl ?_
  refine xw_sipush C (4290) dX6_init_139 (by decide) ?_
  refine xw_newi C (by decide +kernel) 4290 (by decide) (by decide) (by decide) ⟨Nat.le_of_ble_eq_true rfl, Nat.le_of_ble_eq_true rfl⟩ dX6_init_142 (fun q142 => ?_)
  refine xw_putF (w' := [(o, .inr (6, [.int 0, .int 0, .ref q7, .ref q15, .ref q24, .ref q33, .ref q42, .ref q51, .ref q59, .ref q67, .ref q75, .ref q83, .ref q91, .ref q100, .ref q108, .int 0, .int 0, .int 0, .ref q116, .ref q124, .ref q133, .ref q142, .null, .null, .null, .null, .int 0, .null])), (q7, .inl (E.2.1, 8, .inl (fun _ => 0))), (q15, .inl (E.2.1, 8, .inl (fun _ => 0))), (q24, .inl (E.2.1, 512, .inl (fun _ => 0))), (q33, .inl (E.2.1, 512, .inl (fun _ => 0))), (q42, .inl (E.2.1, 512, .inl (fun _ => 0))), (q51, .inl (E.2.2.1, 512, .inl (fun _ => 0))), (q59, .inl (E.2.1, 8, .inl (fun _ => 0))), (q67, .inl (E.2.1, 8, .inl (fun _ => 0))), (q75, .inl (E.2.1, 8, .inl (fun _ => 0))), (q83, .inl (E.2.1, 8, .inl (fun _ => 0))), (q91, .inl (E.2.1, 8, .inl (fun _ => 0))), (q100, .inl (E.2.1, 800, .inl (fun _ => 0))), (q108, .inl (E.2.1, 64, .inl (fun _ => 0))), (q116, .inl (E.2.1, 64, .inl (fun _ => 0))), (q124, .inl (E.2.1, 64, .inl (fun _ => 0))), (q133, .inl (E.2.1, 4290, .inl (fun _ => 0))), (q142, .inl (E.2.1, 4290, .inl (fun _ => 0)))]) C in6 tyX6 tyX6_ok nmX6 0 rfl rfl 21 (by decide) m59 rfl rfl hmn rfl rfl rfl (Nat.le_of_ble_eq_true rfl) rfl dX6_init_144 ?_
  refine xw_aload_n C dX6_init_147 rfl 0 rfl ?_
  refine xw_bipush C (64) dX6_init_148 (by decide) ?_
  refine xw_newi C (by decide +kernel) 64 (by decide) (by decide) (by decide) ⟨Nat.le_of_ble_eq_true rfl, Nat.le_of_ble_eq_true rfl⟩ dX6_init_150 (fun q150 => ?_)
  refine xw_putF (w' := [(o, .inr (6, [.int 0, .int 0, .ref q7, .ref q15, .ref q24, .ref q33, .ref q42, .ref q51, .ref q59, .ref q67, .ref q75, .ref q83, .ref q91, .ref q100, .ref q108, .int 0, .int 0, .int 0, .ref q116, .ref q124, .ref q133, .ref q142, .ref q150, .null, .null, .null, .int 0, .null])), (q7, .inl (E.2.1, 8, .inl (fun _ => 0))), (q15, .inl (E.2.1, 8, .inl (fun _ => 0))), (q24, .inl (E.2.1, 512, .inl (fun _ => 0))), (q33, .inl (E.2.1, 512, .inl (fun _ => 0))), (q42, .inl (E.2.1, 512, .inl (fun _ => 0))), (q51, .inl (E.2.2.1, 512, .inl (fun _ => 0))), (q59, .inl (E.2.1, 8, .inl (fun _ => 0))), (q67, .inl (E.2.1, 8, .inl (fun _ => 0))), (q75, .inl (E.2.1, 8, .inl (fun _ => 0))), (q83, .inl (E.2.1, 8, .inl (fun _ => 0))), (q91, .inl (E.2.1, 8, .inl (fun _ => 0))), (q100, .inl (E.2.1, 800, .inl (fun _ => 0))), (q108, .inl (E.2.1, 64, .inl (fun _ => 0))), (q116, .inl (E.2.1, 64, .inl (fun _ => 0))), (q124, .inl (E.2.1, 64, .inl (fun _ => 0))), (q133, .inl (E.2.1, 4290, .inl (fun _ => 0))), (q142, .inl (E.2.1, 4290, .inl (fun _ => 0))), (q150, .inl (E.2.1, 64, .inl (fun _ => 0)))]) C in6 tyX6 tyX6_ok nmX6 0 rfl rfl 22 (by decide) m62 rfl rfl hmn rfl rfl rfl (Nat.le_of_ble_eq_true rfl) rfl dX6_init_152 ?_
  refine xw_aload_n C dX6_init_155 rfl 0 rfl ?_
  refine xw_bipush C (64) dX6_init_156 (by decide) ?_
  refine xw_newz C (by decide +kernel) 64 (by decide) (by decide) (by decide) ⟨Nat.le_of_ble_eq_true rfl, Nat.le_of_ble_eq_true rfl⟩ dX6_init_158 (fun q158 => ?_)
  refine xw_putF (w' := [(o, .inr (6, [.int 0, .int 0, .ref q7, .ref q15, .ref q24, .ref q33, .ref q42, .ref q51, .ref q59, .ref q67, .ref q75, .ref q83, .ref q91, .ref q100, .ref q108, .int 0, .int 0, .int 0, .ref q116, .ref q124, .ref q133, .ref q142, .ref q150, .ref q158, .null, .null, .int 0, .null])), (q7, .inl (E.2.1, 8, .inl (fun _ => 0))), (q15, .inl (E.2.1, 8, .inl (fun _ => 0))), (q24, .inl (E.2.1, 512, .inl (fun _ => 0))), (q33, .inl (E.2.1, 512, .inl (fun _ => 0))), (q42, .inl (E.2.1, 512, .inl (fun _ => 0))), (q51, .inl (E.2.2.1, 512, .inl (fun _ => 0))), (q59, .inl (E.2.1, 8, .inl (fun _ => 0))), (q67, .inl (E.2.1, 8, .inl (fun _ => 0))), (q75, .inl (E.2.1, 8, .inl (fun _ => 0))), (q83, .inl (E.2.1, 8, .inl (fun _ => 0))), (q91, .inl (E.2.1, 8, .inl (fun _ => 0))), (q100, .inl (E.2.1, 800, .inl (fun _ => 0))), (q108, .inl (E.2.1, 64, .inl (fun _ => 0))), (q116, .inl (E.2.1, 64, .inl (fun _ => 0))), (q124, .inl (E.2.1, 64, .inl (fun _ => 0))), (q133, .inl (E.2.1, 4290, .inl (fun _ => 0))), (q142, .inl (E.2.1, 4290, .inl (fun _ => 0))), (q150, .inl (E.2.1, 64, .inl (fun _ => 0))), (q158, .inl (E.2.2.1, 64, .inl (fun _ => 0)))]) C in6 tyX6 tyX6_ok nmX6 0 rfl rfl 23 (by decide) m65 rfl rfl hmn rfl rfl rfl (Nat.le_of_ble_eq_true rfl) rfl dX6_init_160 ?_
  refine xw_aload_n C dX6_init_163 rfl 0 rfl ?_
  refine xw_bipush C (64) dX6_init_164 (by decide) ?_
  refine xw_newi C (by decide +kernel) 64 (by decide) (by decide) (by decide) ⟨Nat.le_of_ble_eq_true rfl, Nat.le_of_ble_eq_true rfl⟩ dX6_init_166 (fun q166 => ?_)
  refine xw_putF (w' := [(o, .inr (6, [.int 0, .int 0, .ref q7, .ref q15, .ref q24, .ref q33, .ref q42, .ref q51, .ref q59, .ref q67, .ref q75, .ref q83, .ref q91, .ref q100, .ref q108, .int 0, .int 0, .int 0, .ref q116, .ref q124, .ref q133, .ref q142, .ref q150, .ref q158, .ref q166, .null, .int 0, .null])), (q7, .inl (E.2.1, 8, .inl (fun _ => 0))), (q15, .inl (E.2.1, 8, .inl (fun _ => 0))), (q24, .inl (E.2.1, 512, .inl (fun _ => 0))), (q33, .inl (E.2.1, 512, .inl (fun _ => 0))), (q42, .inl (E.2.1, 512, .inl (fun _ => 0))), (q51, .inl (E.2.2.1, 512, .inl (fun _ => 0))), (q59, .inl (E.2.1, 8, .inl (fun _ => 0))), (q67, .inl (E.2.1, 8, .inl (fun _ => 0))), (q75, .inl (E.2.1, 8, .inl (fun _ => 0))), (q83, .inl (E.2.1, 8, .inl (fun _ => 0))), (q91, .inl (E.2.1, 8, .inl (fun _ => 0))), (q100, .inl (E.2.1, 800, .inl (fun _ => 0))), (q108, .inl (E.2.1, 64, .inl (fun _ => 0))), (q116, .inl (E.2.1, 64, .inl (fun _ => 0))), (q124, .inl (E.2.1, 64, .inl (fun _ => 0))), (q133, .inl (E.2.1, 4290, .inl (fun _ => 0))), (q142, .inl (E.2.1, 4290, .inl (fun _ => 0))), (q150, .inl (E.2.1, 64, .inl (fun _ => 0))), (q158, .inl (E.2.2.1, 64, .inl (fun _ => 0))), (q166, .inl (E.2.1, 64, .inl (fun _ => 0)))]) C in6 tyX6 tyX6_ok nmX6 0 rfl rfl 24 (by decide) m68 rfl rfl hmn rfl rfl rfl (Nat.le_of_ble_eq_true rfl) rfl dX6_init_168 ?_
  refine xw_aload_n C dX6_init_171 rfl 0 rfl ?_
  refine xw_bipush C (64) dX6_init_172 (by decide) ?_
  refine xw_newi C (by decide +kernel) 64 (by decide) (by decide) (by decide) ⟨Nat.le_of_ble_eq_true rfl, Nat.le_of_ble_eq_true rfl⟩ dX6_init_174 (fun q174 => ?_)
  refine xw_putF (w' := [(o, .inr (6, [.int 0, .int 0, .ref q7, .ref q15, .ref q24, .ref q33, .ref q42, .ref q51, .ref q59, .ref q67, .ref q75, .ref q83, .ref q91, .ref q100, .ref q108, .int 0, .int 0, .int 0, .ref q116, .ref q124, .ref q133, .ref q142, .ref q150, .ref q158, .ref q166, .ref q174, .int 0, .null])), (q7, .inl (E.2.1, 8, .inl (fun _ => 0))), (q15, .inl (E.2.1, 8, .inl (fun _ => 0))), (q24, .inl (E.2.1, 512, .inl (fun _ => 0))), (q33, .inl (E.2.1, 512, .inl (fun _ => 0))), (q42, .inl (E.2.1, 512, .inl (fun _ => 0))), (q51, .inl (E.2.2.1, 512, .inl (fun _ => 0))), (q59, .inl (E.2.1, 8, .inl (fun _ => 0))), (q67, .inl (E.2.1, 8, .inl (fun _ => 0))), (q75, .inl (E.2.1, 8, .inl (fun _ => 0))), (q83, .inl (E.2.1, 8, .inl (fun _ => 0))), (q91, .inl (E.2.1, 8, .inl (fun _ => 0))), (q100, .inl (E.2.1, 800, .inl (fun _ => 0))), (q108, .inl (E.2.1, 64, .inl (fun _ => 0))), (q116, .inl (E.2.1, 64, .inl (fun _ => 0))), (q124, .inl (E.2.1, 64, .inl (fun _ => 0))), (q133, .inl (E.2.1, 4290, .inl (fun _ => 0))), (q142, .inl (E.2.1, 4290, .inl (fun _ => 0))), (q150, .inl (E.2.1, 64, .inl (fun _ => 0))), (q158, .inl (E.2.2.1, 64, .inl (fun _ => 0))), (q166, .inl (E.2.1, 64, .inl (fun _ => 0))), (q174, .inl (E.2.1, 64, .inl (fun _ => 0)))]) C in6 tyX6 tyX6_ok nmX6 0 rfl rfl 25 (by decide) m71 rfl rfl hmn rfl rfl rfl (Nat.le_of_ble_eq_true rfl) rfl dX6_init_176 ?_
  refine xw_aload_n C dX6_init_179 rfl 0 rfl ?_
  refine xw_sipush C (1280) dX6_init_180 (by decide) ?_
  refine xw_newi C (by decide +kernel) 1280 (by decide) (by decide) (by decide) ⟨Nat.le_of_ble_eq_true rfl, Nat.le_of_ble_eq_true rfl⟩ dX6_init_183 (fun q183 => ?_)
  refine xw_putF (w' := [(o, .inr (6, [.int 0, .int 0, .ref q7, .ref q15, .ref q24, .ref q33, .ref q42, .ref q51, .ref q59, .ref q67, .ref q75, .ref q83, .ref q91, .ref q100, .ref q108, .int 0, .int 0, .int 0, .ref q116, .ref q124, .ref q133, .ref q142, .ref q150, .ref q158, .ref q166, .ref q174, .int 0, .ref q183])), (q7, .inl (E.2.1, 8, .inl (fun _ => 0))), (q15, .inl (E.2.1, 8, .inl (fun _ => 0))), (q24, .inl (E.2.1, 512, .inl (fun _ => 0))), (q33, .inl (E.2.1, 512, .inl (fun _ => 0))), (q42, .inl (E.2.1, 512, .inl (fun _ => 0))), (q51, .inl (E.2.2.1, 512, .inl (fun _ => 0))), (q59, .inl (E.2.1, 8, .inl (fun _ => 0))), (q67, .inl (E.2.1, 8, .inl (fun _ => 0))), (q75, .inl (E.2.1, 8, .inl (fun _ => 0))), (q83, .inl (E.2.1, 8, .inl (fun _ => 0))), (q91, .inl (E.2.1, 8, .inl (fun _ => 0))), (q100, .inl (E.2.1, 800, .inl (fun _ => 0))), (q108, .inl (E.2.1, 64, .inl (fun _ => 0))), (q116, .inl (E.2.1, 64, .inl (fun _ => 0))), (q124, .inl (E.2.1, 64, .inl (fun _ => 0))), (q133, .inl (E.2.1, 4290, .inl (fun _ => 0))), (q142, .inl (E.2.1, 4290, .inl (fun _ => 0))), (q150, .inl (E.2.1, 64, .inl (fun _ => 0))), (q158, .inl (E.2.2.1, 64, .inl (fun _ => 0))), (q166, .inl (E.2.1, 64, .inl (fun _ => 0))), (q174, .inl (E.2.1, 64, .inl (fun _ => 0))), (q183, .inl (E.2.1, 1280, .inl (fun _ => 0)))]) C in6 tyX6 tyX6_ok nmX6 0 rfl rfl 27 (by decide) m74 rfl rfl hmn rfl rfl rfl (Nat.le_of_ble_eq_true rfl) rfl dX6_init_185 ?_
  exact xw_vretM (fun k => if k = 2 then q7 else if k = 3 then q15 else if k = 4 then q24 else if k = 5 then q33 else if k = 6 then q42 else if k = 7 then q51 else if k = 8 then q59 else if k = 9 then q67 else if k = 10 then q75 else if k = 11 then q83 else if k = 12 then q91 else if k = 13 then q100 else if k = 14 then q108 else if k = 18 then q116 else if k = 19 then q124 else if k = 20 then q133 else if k = 21 then q142 else if k = 22 then q150 else if k = 23 then q158 else if k = 24 then q166 else if k = 25 then q174 else if k = 27 then q183 else 0) C hr rfl dX6_init_188
