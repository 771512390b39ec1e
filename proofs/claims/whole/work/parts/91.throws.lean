abbrev rmX5_X : Room := { frames := 8, cells := 1, slots := 6, locals := 200 }
set_option maxHeartbeats 4000000 in
set_option maxRecDepth 100000 in
theorem ok_X5_ask_XN {l : Launch} (hl : l.stackTraces = false) {E : En} {o q u : Nat} {ad bd cd : Nat → Nat} {gg : Nat → Option Nat} {W : va_W} {p1 p2 : Int32} {x y z : Ob} (ht : tref gg p1 = none) : CT l yX5_ask wsX5_ask rmX5_X [.ref o, .int p1, .int p2] E (wF E o q u ad bd cd gg x y z ++ W) := by
  refine xc_T (by decide) rfl (Nat.le_of_ble_eq_true rfl) [(0, .ref o), (1, .int p1), (2, .int p2)] rfl (fun p e s m below meth c A C hex hT => ?_)
  generalize ([.ref o, .int p1, .int p2] : List Value).toArray = args at C ⊢
  obtain ⟨sa, hstr⟩ := hT.1
  have mk : Cond.classLink RX5 67 NSE ∈ wsX5_ask := by decide +kernel
  have mi : Cond.initialized NSE ∈ wsX5_ask := by decide +kernel
  have ma : ∀ w ∈ at13.filter goodWord, w ∈ wsX5_ask := by
    intro w h
    exact List.mem_cons_of_mem _ (List.mem_append_right _ h)
  refine xw_aload_n C dX5_ask_0 rfl 0 rfl ?_
  refine xw_iload_n C dX5_ask_1 rfl 1 rfl ?_
  refine xw_callVQ (w' := wF E o q u ad bd cd gg x y z ++ W) (u := (wF E o q u ad bd cd gg x y z ++ W).take 0) (v := (wF E o q u ad bd cd gg x y z ++ W).drop 4) C (ok_X5_treeOf (o := o) (q := q) (u := u) (ad := ad) (g := gg) (x := x)) 1 gX5_ask_X5_treeOf rfl ⟨rfl, rfl⟩ (by decide +kernel) ⟨Nat.le_of_ble_eq_true rfl, Nat.le_of_ble_eq_true rfl⟩ 0 5 rfl rfl rfl (Nat.le_of_ble_eq_true rfl) ⟨Nat.zero_le _, Nat.zero_le _⟩ rfl rfl rfl dX5_ask_2 (.null) (by rw [ht]; rfl) ?_
  refine xw_astore_nN C dX5_ask_5 rfl (by decide) (lv' := [(3, .null), (0, .ref o), (1, .int p1), (2, .int p2)]) rfl ?_
  refine xw_aload_nN C dX5_ask_6 rfl 0 rfl ?_
  refine xw_ifnull_n C 17 dX5_ask_7 (by decide) ?_
  exact xw_throw C hl hT hex hstr mk mi ma dX5_ask_17 dX5_ask_20 dX5_ask_21 dX5_ask_23 dX5_ask_26 ⟨Nat.le_of_ble_eq_true rfl, Nat.le_of_ble_eq_true rfl, Nat.le_of_ble_eq_true rfl, Nat.le_of_ble_eq_true rfl⟩
set_option maxHeartbeats 4000000 in
set_option maxRecDepth 100000 in
theorem ok_X5_ask_XK {l : Launch} (hl : l.stackTraces = false) {E : En} {o q u : Nat} {ad bd cd : Nat → Nat} {gg : Nat → Option Nat} {W : va_W} {p1 p2 : Int32} {x y z : Ob} {b1 : Nat} (ht : tref gg p1 = some b1) (hk : fX5_isKey p2 = some 0) : CT l yX5_ask wsX5_ask rmX5_X [.ref o, .int p1, .int p2] E (wF E o q u ad bd cd gg x y z ++ W) := by
  refine xc_T (by decide) rfl (Nat.le_of_ble_eq_true rfl) [(0, .ref o), (1, .int p1), (2, .int p2)] rfl (fun p e s m below meth c A C hex hT => ?_)
  generalize ([.ref o, .int p1, .int p2] : List Value).toArray = args at C ⊢
  obtain ⟨sa, hstr⟩ := hT.1
  have mk : Cond.classLink RX5 67 NSE ∈ wsX5_ask := by decide +kernel
  have mi : Cond.initialized NSE ∈ wsX5_ask := by decide +kernel
  have ma : ∀ w ∈ at13.filter goodWord, w ∈ wsX5_ask := by
    intro w h
    exact List.mem_cons_of_mem _ (List.mem_append_right _ h)
  refine xw_aload_n C dX5_ask_0 rfl 0 rfl ?_
  refine xw_iload_n C dX5_ask_1 rfl 1 rfl ?_
  refine xw_callVQ (w' := wF E o q u ad bd cd gg x y z ++ W) (u := (wF E o q u ad bd cd gg x y z ++ W).take 0) (v := (wF E o q u ad bd cd gg x y z ++ W).drop 4) C (ok_X5_treeOf (o := o) (q := q) (u := u) (ad := ad) (g := gg) (x := x)) 1 gX5_ask_X5_treeOf rfl ⟨rfl, rfl⟩ (by decide +kernel) ⟨Nat.le_of_ble_eq_true rfl, Nat.le_of_ble_eq_true rfl⟩ 0 5 rfl rfl rfl (Nat.le_of_ble_eq_true rfl) ⟨Nat.zero_le _, Nat.zero_le _⟩ rfl rfl rfl dX5_ask_2 (.ref b1) (by rw [ht]; rfl) ?_
  refine xw_astore_n C dX5_ask_5 rfl (by decide) (lv' := [(3, .ref b1), (0, .ref o), (1, .int p1), (2, .int p2)]) rfl ?_
  refine xw_aload_n C dX5_ask_6 rfl 0 rfl ?_
  refine xw_ifnull_r C dX5_ask_7 ?_
  refine xw_iload_n C dX5_ask_10 rfl 3 rfl ?_
  refine xw_callSI (w' := wF E o q u ad bd cd gg x y z ++ W) (u := []) (v := wF E o q u ad bd cd gg x y z ++ W) C (ok_X5_isKey hk) 1 gX5_ask_X5_isKey rfl ⟨rfl, rfl⟩ (by decide +kernel) ⟨Nat.le_of_ble_eq_true rfl, Nat.le_of_ble_eq_true rfl⟩ rfl (Nat.le_of_ble_eq_true rfl) ⟨Nat.zero_le _, Nat.zero_le _⟩ rfl rfl rfl dX5_ask_11 ?_
  refine xw_if_ne C 27 dX5_ask_14 (by decide) (fun c14 => absurd rfl c14) (fun c14 => ?_)
  exact xw_throw C hl hT hex hstr mk mi ma dX5_ask_17 dX5_ask_20 dX5_ask_21 dX5_ask_23 dX5_ask_26 ⟨Nat.le_of_ble_eq_true rfl, Nat.le_of_ble_eq_true rfl, Nat.le_of_ble_eq_true rfl, Nat.le_of_ble_eq_true rfl⟩
set_option maxHeartbeats 4000000 in
set_option maxRecDepth 100000 in
theorem ok_X5_remove_XN {l : Launch} (hl : l.stackTraces = false) {E : En} {o q u : Nat} {ad bd cd : Nat → Nat} {gg : Nat → Option Nat} {W : va_W} {p1 p2 : Int32} {x y z : Ob} (ht : tref gg p1 = none) : CT l yX5_remove wsX5_remove rmX5_X [.ref o, .int p1, .int p2] E (wF E o q u ad bd cd gg x y z ++ W) := by
  refine xc_T (by decide) rfl (Nat.le_of_ble_eq_true rfl) [(0, .ref o), (1, .int p1), (2, .int p2)] rfl (fun p e s m below meth c A C hex hT => ?_)
  generalize ([.ref o, .int p1, .int p2] : List Value).toArray = args at C ⊢
  obtain ⟨sa, hstr⟩ := hT.1
  have mk : Cond.classLink RX5 67 NSE ∈ wsX5_remove := by decide +kernel
  have mi : Cond.initialized NSE ∈ wsX5_remove := by decide +kernel
  have ma : ∀ w ∈ at13.filter goodWord, w ∈ wsX5_remove := by
    intro w h
    exact List.mem_cons_of_mem _ (List.mem_append_right _ h)
  refine xw_aload_n C dX5_remove_0 rfl 0 rfl ?_
  refine xw_iload_n C dX5_remove_1 rfl 1 rfl ?_
  refine xw_callVQ (w' := wF E o q u ad bd cd gg x y z ++ W) (u := (wF E o q u ad bd cd gg x y z ++ W).take 0) (v := (wF E o q u ad bd cd gg x y z ++ W).drop 4) C (ok_X5_treeOf (o := o) (q := q) (u := u) (ad := ad) (g := gg) (x := x)) 1 gX5_remove_X5_treeOf rfl ⟨rfl, rfl⟩ (by decide +kernel) ⟨Nat.le_of_ble_eq_true rfl, Nat.le_of_ble_eq_true rfl⟩ 0 5 rfl rfl rfl (Nat.le_of_ble_eq_true rfl) ⟨Nat.zero_le _, Nat.zero_le _⟩ rfl rfl rfl dX5_remove_2 (.null) (by rw [ht]; rfl) ?_
  refine xw_astore_nN C dX5_remove_5 rfl (by decide) (lv' := [(3, .null), (0, .ref o), (1, .int p1), (2, .int p2)]) rfl ?_
  refine xw_aload_nN C dX5_remove_6 rfl 0 rfl ?_
  refine xw_ifnull_n C 17 dX5_remove_7 (by decide) ?_
  exact xw_throw C hl hT hex hstr mk mi ma dX5_remove_17 dX5_remove_20 dX5_remove_21 dX5_remove_23 dX5_remove_26 ⟨Nat.le_of_ble_eq_true rfl, Nat.le_of_ble_eq_true rfl, Nat.le_of_ble_eq_true rfl, Nat.le_of_ble_eq_true rfl⟩
set_option maxHeartbeats 4000000 in
set_option maxRecDepth 100000 in
theorem ok_X5_remove_XK {l : Launch} (hl : l.stackTraces = false) {E : En} {o q u : Nat} {ad bd cd : Nat → Nat} {gg : Nat → Option Nat} {W : va_W} {p1 p2 : Int32} {x y z : Ob} {b1 : Nat} (ht : tref gg p1 = some b1) (hk : fX5_isKey p2 = some 0) : CT l yX5_remove wsX5_remove rmX5_X [.ref o, .int p1, .int p2] E (wF E o q u ad bd cd gg x y z ++ W) := by
  refine xc_T (by decide) rfl (Nat.le_of_ble_eq_true rfl) [(0, .ref o), (1, .int p1), (2, .int p2)] rfl (fun p e s m below meth c A C hex hT => ?_)
  generalize ([.ref o, .int p1, .int p2] : List Value).toArray = args at C ⊢
  obtain ⟨sa, hstr⟩ := hT.1
  have mk : Cond.classLink RX5 67 NSE ∈ wsX5_remove := by decide +kernel
  have mi : Cond.initialized NSE ∈ wsX5_remove := by decide +kernel
  have ma : ∀ w ∈ at13.filter goodWord, w ∈ wsX5_remove := by
    intro w h
    exact List.mem_cons_of_mem _ (List.mem_append_right _ h)
  refine xw_aload_n C dX5_remove_0 rfl 0 rfl ?_
  refine xw_iload_n C dX5_remove_1 rfl 1 rfl ?_
  refine xw_callVQ (w' := wF E o q u ad bd cd gg x y z ++ W) (u := (wF E o q u ad bd cd gg x y z ++ W).take 0) (v := (wF E o q u ad bd cd gg x y z ++ W).drop 4) C (ok_X5_treeOf (o := o) (q := q) (u := u) (ad := ad) (g := gg) (x := x)) 1 gX5_remove_X5_treeOf rfl ⟨rfl, rfl⟩ (by decide +kernel) ⟨Nat.le_of_ble_eq_true rfl, Nat.le_of_ble_eq_true rfl⟩ 0 5 rfl rfl rfl (Nat.le_of_ble_eq_true rfl) ⟨Nat.zero_le _, Nat.zero_le _⟩ rfl rfl rfl dX5_remove_2 (.ref b1) (by rw [ht]; rfl) ?_
  refine xw_astore_n C dX5_remove_5 rfl (by decide) (lv' := [(3, .ref b1), (0, .ref o), (1, .int p1), (2, .int p2)]) rfl ?_
  refine xw_aload_n C dX5_remove_6 rfl 0 rfl ?_
  refine xw_ifnull_r C dX5_remove_7 ?_
  refine xw_iload_n C dX5_remove_10 rfl 3 rfl ?_
  refine xw_callSI (w' := wF E o q u ad bd cd gg x y z ++ W) (u := []) (v := wF E o q u ad bd cd gg x y z ++ W) C (ok_X5_isKey hk) 1 gX5_remove_X5_isKey rfl ⟨rfl, rfl⟩ (by decide +kernel) ⟨Nat.le_of_ble_eq_true rfl, Nat.le_of_ble_eq_true rfl⟩ rfl (Nat.le_of_ble_eq_true rfl) ⟨Nat.zero_le _, Nat.zero_le _⟩ rfl rfl rfl dX5_remove_11 ?_
  refine xw_if_ne C 27 dX5_remove_14 (by decide) (fun c14 => absurd rfl c14) (fun c14 => ?_)
  exact xw_throw C hl hT hex hstr mk mi ma dX5_remove_17 dX5_remove_20 dX5_remove_21 dX5_remove_23 dX5_remove_26 ⟨Nat.le_of_ble_eq_true rfl, Nat.le_of_ble_eq_true rfl, Nat.le_of_ble_eq_true rfl, Nat.le_of_ble_eq_true rfl⟩
set_option maxHeartbeats 4000000 in
set_option maxRecDepth 100000 in
theorem ok_X5_look_XN {l : Launch} (hl : l.stackTraces = false) {E : En} {o q u : Nat} {ad bd cd : Nat → Nat} {gg : Nat → Option Nat} {W : va_W} {p1 p2 p3 : Int32} {x y z : Ob} (ht : tref gg p1 = none) : CT l yX5_look wsX5_look rmX5_X [.ref o, .int p1, .int p2, .int p3] E (wF E o q u ad bd cd gg x y z ++ W) := by
  refine xc_T (by decide) rfl (Nat.le_of_ble_eq_true rfl) [(0, .ref o), (1, .int p1), (2, .int p2), (3, .int p3)] rfl (fun p e s m below meth c A C hex hT => ?_)
  generalize ([.ref o, .int p1, .int p2, .int p3] : List Value).toArray = args at C ⊢
  obtain ⟨sa, hstr⟩ := hT.2.1
  obtain ⟨sb, hstr2⟩ := hT.2.2.1
  have mk : Cond.classLink RX5 67 NSE ∈ wsX5_look := by decide +kernel
  have mi : Cond.initialized NSE ∈ wsX5_look := by decide +kernel
  have ma : ∀ w ∈ at13.filter goodWord, w ∈ wsX5_look := by
    intro w h
    exact List.mem_cons_of_mem _ (List.mem_append_right _ h)
  refine xw_aload_n C dX5_look_0 rfl 0 rfl ?_
  refine xw_iload_n C dX5_look_1 rfl 1 rfl ?_
  refine xw_callVQ (w' := wF E o q u ad bd cd gg x y z ++ W) (u := (wF E o q u ad bd cd gg x y z ++ W).take 0) (v := (wF E o q u ad bd cd gg x y z ++ W).drop 4) C (ok_X5_treeOf (o := o) (q := q) (u := u) (ad := ad) (g := gg) (x := x)) 1 gX5_look_X5_treeOf rfl ⟨rfl, rfl⟩ (by decide +kernel) ⟨Nat.le_of_ble_eq_true rfl, Nat.le_of_ble_eq_true rfl⟩ 0 5 rfl rfl rfl (Nat.le_of_ble_eq_true rfl) ⟨Nat.zero_le _, Nat.zero_le _⟩ rfl rfl rfl dX5_look_2 (.null) (by rw [ht]; rfl) ?_
  refine xw_astoreN C dX5_look_5 (by decide) (lv' := [(4, .null), (0, .ref o), (1, .int p1), (2, .int p2), (3, .int p3)]) rfl ?_
  refine xw_aloadN C dX5_look_7 0 rfl ?_
  refine xw_ifnull_n C 24 dX5_look_9 (by decide) ?_
  exact xw_throw C hl hT hex hstr mk mi ma dX5_look_24 dX5_look_27 dX5_look_28 dX5_look_30 dX5_look_33 ⟨Nat.le_of_ble_eq_true rfl, Nat.le_of_ble_eq_true rfl, Nat.le_of_ble_eq_true rfl, Nat.le_of_ble_eq_true rfl⟩
set_option maxHeartbeats 4000000 in
set_option maxRecDepth 100000 in
theorem ok_X5_look_XH {l : Launch} (hl : l.stackTraces = false) {E : En} {o1 q1 u1 : Nat} {ad1 bd1 : Nat → Nat} {x1 y1 z1 : Ob} {o q u : Nat} {ad bd cd : Nat → Nat} {gg : Nat → Option Nat} {W : va_W} {p1 p2 p3 : Int32} {x y z : Ob} (ht : tref gg p1 = some o1) (hh : fX3_holds p2 y1 = some 0) : CT l yX5_look wsX5_look rmX5_X [.ref o, .int p1, .int p2, .int p3] E (w4 E o1 q1 u1 ad1 bd1 x1 y1 z1 ++ wF E o q u ad bd cd gg x y z ++ W) := by
  refine xc_T (by decide) rfl (Nat.le_of_ble_eq_true rfl) [(0, .ref o), (1, .int p1), (2, .int p2), (3, .int p3)] rfl (fun p e s m below meth c A C hex hT => ?_)
  generalize ([.ref o, .int p1, .int p2, .int p3] : List Value).toArray = args at C ⊢
  obtain ⟨sa, hstr⟩ := hT.2.1
  obtain ⟨sb, hstr2⟩ := hT.2.2.1
  have mk : Cond.classLink RX5 67 NSE ∈ wsX5_look := by decide +kernel
  have mi : Cond.initialized NSE ∈ wsX5_look := by decide +kernel
  have ma : ∀ w ∈ at13.filter goodWord, w ∈ wsX5_look := by
    intro w h
    exact List.mem_cons_of_mem _ (List.mem_append_right _ h)
  refine xw_aload_n C dX5_look_0 rfl 0 rfl ?_
  refine xw_iload_n C dX5_look_1 rfl 1 rfl ?_
  have in4 : ∀ w ∈ wsX40, w ∈ wsX5_look := by decide +kernel
  have m55 : Cond.fieldLink RX5 55 "TurningTrees$Tree" "shape" "LTurningTrees$Shape;" ∈ wsX5_look := by decide +kernel
  refine xw_callVQ (w' := w4 E o1 q1 u1 ad1 bd1 x1 y1 z1 ++ wF E o q u ad bd cd gg x y z ++ W) (u := (w4 E o1 q1 u1 ad1 bd1 x1 y1 z1 ++ wF E o q u ad bd cd gg x y z ++ W).take 9) (v := (w4 E o1 q1 u1 ad1 bd1 x1 y1 z1 ++ wF E o q u ad bd cd gg x y z ++ W).drop 13) C (ok_X5_treeOf (o := o) (q := q) (u := u) (ad := ad) (g := gg) (x := x)) 1 gX5_look_X5_treeOf rfl ⟨rfl, rfl⟩ (by decide +kernel) ⟨Nat.le_of_ble_eq_true rfl, Nat.le_of_ble_eq_true rfl⟩ 0 5 rfl rfl rfl (Nat.le_of_ble_eq_true rfl) ⟨Nat.zero_le _, Nat.zero_le _⟩ rfl rfl rfl dX5_look_2 (.ref o1) (by rw [ht]; rfl) ?_
  refine xw_astore C dX5_look_5 (by decide) (lv' := [(4, .ref o1), (0, .ref o), (1, .int p1), (2, .int p2), (3, .int p3)]) rfl ?_
  refine xw_aload C dX5_look_7 0 rfl ?_
  refine xw_ifnull_r C dX5_look_9 ?_
  refine xw_aload C dX5_look_12 0 rfl ?_
  refine xw_get C in4 0 rfl rfl 1 (by decide) m55 rfl rfl dX5_look_14 ?_
  refine xw_iload_n C dX5_look_17 rfl 3 rfl ?_
  refine xw_callVI (w' := w4 E o1 q1 u1 ad1 bd1 x1 y1 z1 ++ wF E o q u ad bd cd gg x y z ++ W) (u := (w4 E o1 q1 u1 ad1 bd1 x1 y1 z1 ++ wF E o q u ad bd cd gg x y z ++ W).take 1) (v := (w4 E o1 q1 u1 ad1 bd1 x1 y1 z1 ++ wF E o q u ad bd cd gg x y z ++ W).drop 7) C (ok_X3_holds (o := q1) (ad := ad1) (x := y1) hh) 1 gX5_look_X3_holds rfl ⟨rfl, rfl⟩ (by decide +kernel) ⟨Nat.le_of_ble_eq_true rfl, Nat.le_of_ble_eq_true rfl⟩ 0 3 rfl rfl rfl (Nat.le_of_ble_eq_true rfl) ⟨Nat.zero_le _, Nat.zero_le _⟩ rfl rfl (by rfl) dX5_look_18 ?_
  refine xw_if_ne C 34 dX5_look_21 (by decide) (fun c21 => absurd rfl c21) (fun c21 => ?_)
  exact xw_throw C hl hT hex hstr mk mi ma dX5_look_24 dX5_look_27 dX5_look_28 dX5_look_30 dX5_look_33 ⟨Nat.le_of_ble_eq_true rfl, Nat.le_of_ble_eq_true rfl, Nat.le_of_ble_eq_true rfl, Nat.le_of_ble_eq_true rfl⟩
set_option maxHeartbeats 4000000 in
set_option maxRecDepth 100000 in
theorem ok_X5_look_XW {l : Launch} (hl : l.stackTraces = false) {E : En} {o1 q1 u1 : Nat} {ad1 bd1 : Nat → Nat} {x1 y1 z1 : Ob} {o q u : Nat} {ad bd cd : Nat → Nat} {gg : Nat → Option Nat} {W : va_W} {p1 p2 p3 : Int32} {x y z : Ob} (ht : tref gg p1 = some o1) (hh : fX3_holds p2 y1 = some 1) (hw : p3.toInt < 0 ∨ 4 < p3.toInt) : CT l yX5_look wsX5_look rmX5_X [.ref o, .int p1, .int p2, .int p3] E (w4 E o1 q1 u1 ad1 bd1 x1 y1 z1 ++ wF E o q u ad bd cd gg x y z ++ W) := by
  refine xc_T (by decide) rfl (Nat.le_of_ble_eq_true rfl) [(0, .ref o), (1, .int p1), (2, .int p2), (3, .int p3)] rfl (fun p e s m below meth c A C hex hT => ?_)
  generalize ([.ref o, .int p1, .int p2, .int p3] : List Value).toArray = args at C ⊢
  obtain ⟨sa, hstr⟩ := hT.2.1
  obtain ⟨sb, hstr2⟩ := hT.2.2.1
  have mk : Cond.classLink RX5 67 NSE ∈ wsX5_look := by decide +kernel
  have mi : Cond.initialized NSE ∈ wsX5_look := by decide +kernel
  have ma : ∀ w ∈ at13.filter goodWord, w ∈ wsX5_look := by
    intro w h
    exact List.mem_cons_of_mem _ (List.mem_append_right _ h)
  refine xw_aload_n C dX5_look_0 rfl 0 rfl ?_
  refine xw_iload_n C dX5_look_1 rfl 1 rfl ?_
  have in4 : ∀ w ∈ wsX40, w ∈ wsX5_look := by decide +kernel
  have m55 : Cond.fieldLink RX5 55 "TurningTrees$Tree" "shape" "LTurningTrees$Shape;" ∈ wsX5_look := by decide +kernel
  refine xw_callVQ (w' := w4 E o1 q1 u1 ad1 bd1 x1 y1 z1 ++ wF E o q u ad bd cd gg x y z ++ W) (u := (w4 E o1 q1 u1 ad1 bd1 x1 y1 z1 ++ wF E o q u ad bd cd gg x y z ++ W).take 9) (v := (w4 E o1 q1 u1 ad1 bd1 x1 y1 z1 ++ wF E o q u ad bd cd gg x y z ++ W).drop 13) C (ok_X5_treeOf (o := o) (q := q) (u := u) (ad := ad) (g := gg) (x := x)) 1 gX5_look_X5_treeOf rfl ⟨rfl, rfl⟩ (by decide +kernel) ⟨Nat.le_of_ble_eq_true rfl, Nat.le_of_ble_eq_true rfl⟩ 0 5 rfl rfl rfl (Nat.le_of_ble_eq_true rfl) ⟨Nat.zero_le _, Nat.zero_le _⟩ rfl rfl rfl dX5_look_2 (.ref o1) (by rw [ht]; rfl) ?_
  refine xw_astore C dX5_look_5 (by decide) (lv' := [(4, .ref o1), (0, .ref o), (1, .int p1), (2, .int p2), (3, .int p3)]) rfl ?_
  refine xw_aload C dX5_look_7 0 rfl ?_
  refine xw_ifnull_r C dX5_look_9 ?_
  refine xw_aload C dX5_look_12 0 rfl ?_
  refine xw_get C in4 0 rfl rfl 1 (by decide) m55 rfl rfl dX5_look_14 ?_
  refine xw_iload_n C dX5_look_17 rfl 3 rfl ?_
  refine xw_callVI (w' := w4 E o1 q1 u1 ad1 bd1 x1 y1 z1 ++ wF E o q u ad bd cd gg x y z ++ W) (u := (w4 E o1 q1 u1 ad1 bd1 x1 y1 z1 ++ wF E o q u ad bd cd gg x y z ++ W).take 1) (v := (w4 E o1 q1 u1 ad1 bd1 x1 y1 z1 ++ wF E o q u ad bd cd gg x y z ++ W).drop 7) C (ok_X3_holds (o := q1) (ad := ad1) (x := y1) hh) 1 gX5_look_X3_holds rfl ⟨rfl, rfl⟩ (by decide +kernel) ⟨Nat.le_of_ble_eq_true rfl, Nat.le_of_ble_eq_true rfl⟩ 0 3 rfl rfl rfl (Nat.le_of_ble_eq_true rfl) ⟨Nat.zero_le _, Nat.zero_le _⟩ rfl rfl (by rfl) dX5_look_18 ?_
  refine xw_if_ne C 34 dX5_look_21 (by decide) (fun c21 => ?_) (fun c21 => absurd c21 (by decide))
  refine xw_iload_n C dX5_look_34 rfl 4 rfl ?_
  refine xw_tabOut C 118 dX5_look_35 hw (by decide) ?_
  exact xw_throw C hl hT hex hstr2 mk mi ma dX5_look_118 dX5_look_121 dX5_look_122 dX5_look_124 dX5_look_127 ⟨Nat.le_of_ble_eq_true rfl, Nat.le_of_ble_eq_true rfl, Nat.le_of_ble_eq_true rfl, Nat.le_of_ble_eq_true rfl⟩
