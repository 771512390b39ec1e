section LX
variable {kc ks : Nat} {E : En} {cL : ClassId} {o q u : Nat} {ad bd cd : Nat → Nat} {om : Nat} {am : Nat → Nat} {ol : Nat} {p : Program} {l : Launch} {e : Env} {s : State} {m : MethodId} {args : Array Value} {below : List Frame} {meth : Method} {c : Code} {Zp : State → Prop} {A : Nat → Prop} {pc nL : Nat} {lv : List (Nat × Value)} {st : List Value} {cc : ByteArray}
variable {gg : Nat → Option Nat} {X Y Z M : Ob} {ts : List TD} {fo : Nat → Int64}
theorem pmw_f (E : En) (cL : ClassId) (o q u : Nat) (ad bd cd : Nat → Nat) (om : Nat) (am : Nat → Nat) (ol : Nat) (gg : Nat → Option Nat) (X Y Z : Ob) (ts : List TD) (M : Ob) (fo : Nat → Int64) : (LW E cL o q u ad bd cd om am ol gg X Y Z ts M fo).Perm (wF E o q u ad bd cd gg X Y Z ++ (wTs E ts ++ w6 E om am M) ++ wO cL ol fo) := by
  unfold LW
  have := pm_a (wTs E ts) (wF E o q u ad bd cd gg X Y Z) (w6 E om am M ++ wO cL ol fo)
  simp only [List.append_assoc] at this ⊢
  exact this
set_option maxHeartbeats 4000000 in
set_option maxRecDepth 100000 in
theorem lx_ask (C : Cx E p s m args meth c A cc nL wsL_law RL) (hsl : l.stackTraces = false) (hTh : thr A s) (hKL : va_K E.1 vwCl [(cL, .long)] s) (inv : Inv gg X Z ts M) (p1 p2 : Int32) (h8 : (st.map fun v => v.category).sum ≤ 8) (hrm : kc + 9 ≤ room_1.cells ∧ ks + 434 ≤ room_1.slots) (d : decode cc pc = .ok (.invokestatic 35, 3))
    (kk : ∀ (k v : Int32) (f' : Nat → Int64) (ts' : List TD) (M' : Ob), fX6_ask p1 p2 M = some (v, M') → Inv gg X Z ts' M' → M'.1 0 = k → (k = 0 ∨ k = 1) → (k = 0 → f' 0 = v.toInt64) → XW E p l e room_1 s m args below meth c Zp A (kc + 9) (ks + 434) (LW E cL o q u ad bd cd om am ol gg X Y Z ts' M f') (pc + 3) nL lv (.int k :: st)) : XW E p l e room_1 s m args below meth c Zp A kc ks (LW E cL o q u ad bd cd om am ol gg X Y Z ts M fo) pc nL lv (.ref ol :: .int p2 :: .int p1 :: .ref o :: st) := by
  have hn8 := inv.1
  have h1 := inv.2.1
  rcases inv.ref p1 with ⟨t0, n0, n1⟩ | ⟨i, dd, rfl, hi, hlt, t0⟩
  · exact xl_wrap C hTh hKL (ok_L_ask_X (cL := cL) (ol := ol) (f := fo) (q0 := 0) (ok_X5_ask_XN hsl (p2 := p2) t0 (W := wTs E ts ++ w6 E om am M) (x := X) (y := Y) (z := Z) (bd := bd) (cd := cd) (q := q) (u := u) (ad := ad)) rfl) 4 gL_law_L_ask rfl (by decide +kernel) ⟨Nat.le_of_ble_eq_true rfl, Nat.le_of_ble_eq_true rfl⟩ rfl h8 hrm rfl d (pmw_f ..) (pmw_f ..).symm (kk 1 0 fo ts _ (by rw [fX6_ask, n1, Option.bind_some, if_pos rfl, fX6_ask_J20, fX6_ask_J21, px_let, if_neg (show ¬ (ob_i M 0 1).1 0 ≤ 0 by show ¬ (1 : Int32) ≤ 0; decide)]) (inv.m0 1) rfl (Or.inr rfl) (fun w => absurd w (by decide)))
  · obtain ⟨G, hT⟩ := inv.2.2.2.2.1 i dd hi
    have h1' : (ob_i M 0 0).1 1 = nI ts.length := h1
    have out : (p2 < 0 ∨ nI 64 ≤ p2) → XW E p l e room_1 s m args below meth c Zp A kc ks (LW E cL o q u ad bd cd om am ol gg X Y Z ts M fo) pc nL lv (.ref ol :: .int p2 :: .int (nI i) :: .ref o :: st) := fun w => xl_wrap C hTh hKL (ok_L_ask_X (cL := cL) (ol := ol) (f := fo) (q0 := 0) (ok_X5_ask_XK hsl t0 (isKey5_0 w) (W := wTs E ts ++ w6 E om am M) (x := X) (y := Y) (z := Z) (bd := bd) (cd := cd) (q := q) (u := u) (ad := ad)) rfl) 4 gL_law_L_ask rfl (by decide +kernel) ⟨Nat.le_of_ble_eq_true rfl, Nat.le_of_ble_eq_true rfl⟩ rfl h8 hrm rfl d (pmw_f ..) (pmw_f ..).symm (kk 1 0 fo ts _ (by rw [fX6_ask, isTree_1 hn8 h1 hlt, Option.bind_some, if_neg (by decide), isKey6_0 w, Option.bind_some, if_pos rfl, fX6_ask_J20, fX6_ask_J21, px_let, if_neg (show ¬ (ob_i M 0 1).1 0 ≤ 0 by show ¬ (1 : Int32) ≤ 0; decide)]) (inv.m0 1) rfl (Or.inr rfl) (fun w => absurd w (by decide)))
    rcases pk_ix p2 (n := 64) (by omega) with w | w | ⟨k, hk, rfl⟩
    · exact out (Or.inl w)
    · exact out (Or.inr w)
    · obtain ⟨r, hr⟩ := pm_t (E := E) hlt
      have pmT : ∀ (a : TD) (f9 : Nat → Int64), (LW E cL o q u ad bd cd om am ol gg X Y Z (ts.set i a) M f9).Perm (twd E a ++ wF E o q u ad bd cd gg X Y Z ++ (wTs E r ++ w6 E om am M) ++ wO cL ol f9) := by
        intro a f9
        have := hr a (wF E o q u ad bd cd gg X Y Z) (w6 E om am M ++ wO cL ol f9)
        unfold LW
        simp only [List.append_assoc] at this ⊢
        exact this
      have pm0 := pmT dd fo
      rw [set_self hi] at pm0
      obtain ⟨r9, M', T', y', z', G', a1, a2, a3, a4, a5⟩ := sim_ask hn8 h1 hlt hT hk
      have hf : fX5_ask_T (nI i) (nI k) dd.2.1 dd.2.2.1 dd.2.2.2 = some (r9, T', y', z') := by rw [fX5_ask_T, isKey5_1 hk, Option.bind_some, if_neg (by decide), a2]; rfl
      exact xl_wrap C hTh hKL (ok_L_ask_R (cL := cL) (ol := ol) (f := fo) (q0 := 9) (ok_X5_ask_T (r := (r9, T', y', z')) (W := wTs E r ++ w6 E om am M) t0 hf) rfl) 4 gL_law_L_ask rfl (by decide +kernel) ⟨Nat.le_of_ble_eq_true rfl, Nat.le_of_ble_eq_true rfl⟩ rfl h8 hrm rfl d pm0 (pmT (dd.1, T', y', z') _).symm (kk 0 r9 _ _ M' a1 (inv.upd hi rfl a4 (by decide) (by decide) (by decide) ⟨G', a3⟩) a5 (Or.inl rfl) (fun _ => rfl))
set_option maxHeartbeats 4000000 in
set_option maxRecDepth 100000 in
theorem lx_remove (C : Cx E p s m args meth c A cc nL wsL_law RL) (hsl : l.stackTraces = false) (hTh : thr A s) (hKL : va_K E.1 vwCl [(cL, .long)] s) (inv : Inv gg X Z ts M) (p1 p2 : Int32) (h8 : (st.map fun v => v.category).sum ≤ 8) (hrm : kc + 9 ≤ room_1.cells ∧ ks + 434 ≤ room_1.slots) (d : decode cc pc = .ok (.invokestatic 45, 3))
    (kk : ∀ (k v : Int32) (f' : Nat → Int64) (ts' : List TD) (M' : Ob), fX6_remove p1 p2 M = some (v, M') → Inv gg X Z ts' M' → M'.1 0 = k → (k = 0 ∨ k = 1) → (k = 0 → f' 0 = v.toInt64) → XW E p l e room_1 s m args below meth c Zp A (kc + 9) (ks + 434) (LW E cL o q u ad bd cd om am ol gg X Y Z ts' M f') (pc + 3) nL lv (.int k :: st)) : XW E p l e room_1 s m args below meth c Zp A kc ks (LW E cL o q u ad bd cd om am ol gg X Y Z ts M fo) pc nL lv (.ref ol :: .int p2 :: .int p1 :: .ref o :: st) := by
  have hn8 := inv.1
  have h1 := inv.2.1
  rcases inv.ref p1 with ⟨t0, n0, n1⟩ | ⟨i, dd, rfl, hi, hlt, t0⟩
  · exact xl_wrap C hTh hKL (ok_L_remove_X (cL := cL) (ol := ol) (f := fo) (q0 := 0) (ok_X5_remove_XN hsl (p2 := p2) t0 (W := wTs E ts ++ w6 E om am M) (x := X) (y := Y) (z := Z) (bd := bd) (cd := cd) (q := q) (u := u) (ad := ad)) rfl) 4 gL_law_L_remove rfl (by decide +kernel) ⟨Nat.le_of_ble_eq_true rfl, Nat.le_of_ble_eq_true rfl⟩ rfl h8 hrm rfl d (pmw_f ..) (pmw_f ..).symm (kk 1 0 fo ts _ (by rw [fX6_remove, n1, Option.bind_some, if_pos rfl, fX6_remove_J20, fX6_remove_J21, px_let, if_neg (show ¬ (ob_i M 0 1).1 0 ≤ 0 by show ¬ (1 : Int32) ≤ 0; decide)]) (inv.m0 1) rfl (Or.inr rfl) (fun w => absurd w (by decide)))
  · obtain ⟨G, hT⟩ := inv.2.2.2.2.1 i dd hi
    have h1' : (ob_i M 0 0).1 1 = nI ts.length := h1
    have out : (p2 < 0 ∨ nI 64 ≤ p2) → XW E p l e room_1 s m args below meth c Zp A kc ks (LW E cL o q u ad bd cd om am ol gg X Y Z ts M fo) pc nL lv (.ref ol :: .int p2 :: .int (nI i) :: .ref o :: st) := fun w => xl_wrap C hTh hKL (ok_L_remove_X (cL := cL) (ol := ol) (f := fo) (q0 := 0) (ok_X5_remove_XK hsl t0 (isKey5_0 w) (W := wTs E ts ++ w6 E om am M) (x := X) (y := Y) (z := Z) (bd := bd) (cd := cd) (q := q) (u := u) (ad := ad)) rfl) 4 gL_law_L_remove rfl (by decide +kernel) ⟨Nat.le_of_ble_eq_true rfl, Nat.le_of_ble_eq_true rfl⟩ rfl h8 hrm rfl d (pmw_f ..) (pmw_f ..).symm (kk 1 0 fo ts _ (by rw [fX6_remove, isTree_1 hn8 h1 hlt, Option.bind_some, if_neg (by decide), isKey6_0 w, Option.bind_some, if_pos rfl, fX6_remove_J20, fX6_remove_J21, px_let, if_neg (show ¬ (ob_i M 0 1).1 0 ≤ 0 by show ¬ (1 : Int32) ≤ 0; decide)]) (inv.m0 1) rfl (Or.inr rfl) (fun w => absurd w (by decide)))
    rcases pk_ix p2 (n := 64) (by omega) with w | w | ⟨k, hk, rfl⟩
    · exact out (Or.inl w)
    · exact out (Or.inr w)
    · obtain ⟨r, hr⟩ := pm_t (E := E) hlt
      have pmT : ∀ (a : TD) (f9 : Nat → Int64), (LW E cL o q u ad bd cd om am ol gg X Y Z (ts.set i a) M f9).Perm (twd E a ++ wF E o q u ad bd cd gg X Y Z ++ (wTs E r ++ w6 E om am M) ++ wO cL ol f9) := by
        intro a f9
        have := hr a (wF E o q u ad bd cd gg X Y Z) (w6 E om am M ++ wO cL ol f9)
        unfold LW
        simp only [List.append_assoc] at this ⊢
        exact this
      have pm0 := pmT dd fo
      rw [set_self hi] at pm0
      obtain ⟨r9, M', T', y', G', a1, a2, a3, a4, a5⟩ := sim_remA hn8 h1 hlt hT hk
      have hf : fX5_remove_T (nI i) (nI k) dd.2.1 dd.2.2.1 = some (r9, T', y') := by rw [fX5_remove_T, isKey5_1 hk, Option.bind_some, if_neg (by decide), a2]; rfl
      exact xl_wrap C hTh hKL (ok_L_remove_R (cL := cL) (ol := ol) (f := fo) (q0 := 9) (ok_X5_remove_T (z1 := dd.2.2.2) (r := (r9, T', y')) (W := wTs E r ++ w6 E om am M) t0 hf) rfl) 4 gL_law_L_remove rfl (by decide +kernel) ⟨Nat.le_of_ble_eq_true rfl, Nat.le_of_ble_eq_true rfl⟩ rfl h8 hrm rfl d pm0 (pmT (dd.1, T', y', dd.2.2.2) _).symm (kk 0 r9 _ _ M' a1 (inv.upd hi rfl a4 (by decide) (by decide) (by decide) ⟨G', a3⟩) a5 (Or.inl rfl) (fun _ => rfl))
set_option maxHeartbeats 4000000 in
set_option maxRecDepth 100000 in
theorem lx_look (C : Cx E p s m args meth c A cc nL wsL_law RL) (hsl : l.stackTraces = false) (hTh : thr A s) (hKL : va_K E.1 vwCl [(cL, .long)] s) (inv : Inv gg X Z ts M) (p1 p2 p3 : Int32) (h8 : (st.map fun v => v.category).sum ≤ 8) (hrm : kc + 9 ≤ room_1.cells ∧ ks + 434 ≤ room_1.slots) (d : decode cc pc = .ok (.invokestatic 61, 3))
    (kk : ∀ (k v : Int32) (f' : Nat → Int64) (ts' : List TD) (M' : Ob), fX6_look p1 p2 p3 M = some (v, M') → Inv gg X Z ts' M' → M'.1 0 = k → (k = 0 ∨ k = 1) → (k = 0 → f' 0 = v.toInt64) → XW E p l e room_1 s m args below meth c Zp A (kc + 9) (ks + 434) (LW E cL o q u ad bd cd om am ol gg X Y Z ts' M f') (pc + 3) nL lv (.int k :: st)) : XW E p l e room_1 s m args below meth c Zp A kc ks (LW E cL o q u ad bd cd om am ol gg X Y Z ts M fo) pc nL lv (.ref ol :: .int p3 :: .int p2 :: .int p1 :: .ref o :: st) := by
  have hn8 := inv.1
  have h1 := inv.2.1
  rcases inv.ref p1 with ⟨t0, n0, n1⟩ | ⟨i, dd, rfl, hi, hlt, t0⟩
  · exact xl_wrap C hTh hKL (ok_L_look_X (cL := cL) (ol := ol) (f := fo) (q0 := 0) (ok_X5_look_XN hsl (p2 := p2) (p3 := p3) t0 (W := wTs E ts ++ w6 E om am M) (x := X) (y := Y) (z := Z) (bd := bd) (cd := cd) (q := q) (u := u) (ad := ad)) rfl) 5 gL_law_L_look rfl (by decide +kernel) ⟨Nat.le_of_ble_eq_true rfl, Nat.le_of_ble_eq_true rfl⟩ rfl h8 hrm rfl d (pmw_f ..) (pmw_f ..).symm (kk 1 0 fo ts _ (look_thr _ _ _ _ (by rw [fX6_look, n1, Option.bind_some, if_pos rfl])) (inv.m0 1) rfl (Or.inr rfl) (fun w => absurd w (by decide)))
  · obtain ⟨G, hT⟩ := inv.2.2.2.2.1 i dd hi
    have h1' : (ob_i M 0 0).1 1 = nI ts.length := h1
    obtain ⟨r, hr⟩ := pm_t (E := E) hlt
    have pmT : ∀ (a : TD) (f9 : Nat → Int64), (LW E cL o q u ad bd cd om am ol gg X Y Z (ts.set i a) M f9).Perm (twd E a ++ wF E o q u ad bd cd gg X Y Z ++ (wTs E r ++ w6 E om am M) ++ wO cL ol f9) := by
      intro a f9
      have := hr a (wF E o q u ad bd cd gg X Y Z) (w6 E om am M ++ wO cL ol f9)
      unfold LW
      simp only [List.append_assoc] at this ⊢
      exact this
    have pm0 := pmT dd fo
    rw [set_self hi] at pm0
    have he : ∀ W : va_W, (twd E dd ++ wF E o q u ad bd cd gg X Y Z ++ W)[9]? = some (o, .inr (5, [.ref (ad 0), .int (X.1 1), .ref (ad 2), .int (X.1 3), .ref (ad 4), .ref q, .ref u])) := fun W => rfl
    have thH : fX3_holds p2 dd.2.2.1 = some 0 → fX6_look (nI i) p2 p3 M = fX6_look_J43 (nI i) p2 p3 M → XW E p l e room_1 s m args below meth c Zp A kc ks (LW E cL o q u ad bd cd om am ol gg X Y Z ts M fo) pc nL lv (.ref ol :: .int p3 :: .int p2 :: .int (nI i) :: .ref o :: st) := fun hh hr => xl_wrap C hTh hKL (ok_L_look_X (cL := cL) (ol := ol) (f := fo) (q0 := 9) (ok_X5_look_XH hsl (x1 := dd.2.1) (y1 := dd.2.2.1) (z1 := dd.2.2.2) (q1 := dd.1.2.1) (u1 := dd.1.2.2.1) (ad1 := dd.1.2.2.2.1) (bd1 := dd.1.2.2.2.2) (W := wTs E r ++ w6 E om am M) (x := X) (y := Y) (z := Z) (bd := bd) (cd := cd) (q := q) (u := u) (ad := ad) t0 hh) (he _)) 5 gL_law_L_look rfl (by decide +kernel) ⟨Nat.le_of_ble_eq_true rfl, Nat.le_of_ble_eq_true rfl⟩ rfl h8 hrm rfl d pm0 pm0.symm (kk 1 0 fo ts _ (look_thr _ _ _ _ hr) (inv.m0 1) rfl (Or.inr rfl) (fun w => absurd w (by decide)))
    have out : (p2 < 0 ∨ nI 64 ≤ p2) → XW E p l e room_1 s m args below meth c Zp A kc ks (LW E cL o q u ad bd cd om am ol gg X Y Z ts M fo) pc nL lv (.ref ol :: .int p3 :: .int p2 :: .int (nI i) :: .ref o :: st) := fun w => thH (holds_out w) (by rw [fX6_look, isTree_1 hn8 h1 hlt, Option.bind_some, if_neg (by decide), isKey6_0 w, Option.bind_some, if_pos rfl])
    rcases pk_ix p2 (n := 64) (by omega) with w | w | ⟨k, hk, rfl⟩
    · exact out (Or.inl w)
    · exact out (Or.inr w)
    · have hh := hT.1.holds hk
      have in7 := hT.1.isIn hk
      have pre : fX6_look (nI i) (nI k) p3 M = (if p3 < 0 then fX6_look_J43 (nI i) (nI k) p3 M else (if (4) < p3 then fX6_look_J43 (nI i) (nI k) p3 M else (if M.2 7 (64 * i + k) = 0 then fX6_look_J43 (nI i) (nI k) p3 M else fX6_look_J44 (nI i) (nI k) p3 0 M))) := by
        rw [fX6_look, isTree_1 hn8 h1 hlt, Option.bind_some, if_neg (by decide), isKey6_1 hk, Option.bind_some, if_neg (by decide), ix6 (by omega) hk]
      cases hI : gI G k with
      | false =>
        rw [hI] at hh in7
        refine thH hh ?_
        rw [pre]
        by_cases c1 : p3 < 0
        · rw [if_pos c1]
        · by_cases c2 : (4 : Int32) < p3
          · rw [if_neg c1, if_pos c2]
          · rw [if_neg c1, if_neg c2, in7, if_pos (by decide)]
      | true =>
        rw [hI] at hh
        have thW : (p3.toInt < 0 ∨ 4 < p3.toInt) → fX6_look (nI i) (nI k) p3 M = fX6_look_J43 (nI i) (nI k) p3 M → XW E p l e room_1 s m args below meth c Zp A kc ks (LW E cL o q u ad bd cd om am ol gg X Y Z ts M fo) pc nL lv (.ref ol :: .int p3 :: .int (nI k) :: .int (nI i) :: .ref o :: st) := fun hw hr => xl_wrap C hTh hKL (ok_L_look_X (cL := cL) (ol := ol) (f := fo) (q0 := 9) (ok_X5_look_XW hsl (x1 := dd.2.1) (y1 := dd.2.2.1) (z1 := dd.2.2.2) (q1 := dd.1.2.1) (u1 := dd.1.2.2.1) (ad1 := dd.1.2.2.2.1) (bd1 := dd.1.2.2.2.2) (W := wTs E r ++ w6 E om am M) (x := X) (y := Y) (z := Z) (bd := bd) (cd := cd) (q := q) (u := u) (ad := ad) t0 hh hw) (he _)) 5 gL_law_L_look rfl (by decide +kernel) ⟨Nat.le_of_ble_eq_true rfl, Nat.le_of_ble_eq_true rfl⟩ rfl h8 hrm rfl d pm0 pm0.symm (kk 1 0 fo ts _ (look_thr _ _ _ _ hr) (inv.m0 1) rfl (Or.inr rfl) (fun w => absurd w (by decide)))
        by_cases c1 : p3 < 0
        · exact thW (Or.inl (Int32.lt_iff_toInt_lt.mp c1)) (by rw [pre, if_pos c1])
        · by_cases c2 : (4 : Int32) < p3
          · exact thW (Or.inr (Int32.lt_iff_toInt_lt.mp c2)) (by rw [pre, if_neg c1, if_pos c2])
          · obtain ⟨j, j1, j2⟩ := nI_of2 (x := p3) (M := 4) (n := 4) rfl c1 (Int32.not_lt.mp c2)
            subst j2
            obtain ⟨v, a1, a2⟩ := sim_look hn8 h1 hlt hT hI j1
            exact xl_wrap C hTh hKL (ok_L_look_R (cL := cL) (ol := ol) (f := fo) (q0 := 9) (ok_X5_look_T (x1 := dd.2.1) (y1 := dd.2.2.1) (z1 := dd.2.2.2) (q1 := dd.1.2.1) (u1 := dd.1.2.2.1) (ad1 := dd.1.2.2.2.1) (bd1 := dd.1.2.2.2.2) (W := wTs E r ++ w6 E om am M) (x := X) (y := Y) (z := Z) (bd := bd) (cd := cd) (q := q) (u := u) (ad := ad) t0 a2) (he _)) 5 gL_law_L_look rfl (by decide +kernel) ⟨Nat.le_of_ble_eq_true rfl, Nat.le_of_ble_eq_true rfl⟩ rfl h8 hrm rfl d pm0 (pmT dd _).symm (kk 0 v _ _ _ a1 (by rw [set_self hi]; exact inv.m0 0) rfl (Or.inl rfl) (fun _ => rfl))
end LX
