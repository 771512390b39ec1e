theorem xe0 {w : va_W} : w = [] ++ w ++ [] := by simp
theorem xD_l {A : Nat → Prop} {a b : va_W} (h : va_D A (a ++ b)) : va_D A a := by
  have key : ∀ (k : Nat) (q : Nat × va_E), a[k]? = some q → (a ++ b)[k]? = some q := fun k q hk => by
    rw [List.getElem?_append_left (List.getElem?_eq_some_iff.mp hk).1]; exact hk
  exact ⟨fun i j x y hi hj hxy => h.1 i j x y (key i x hi) (key j y hj) hxy, fun k q hk => h.2 k q (key k q hk)⟩
theorem xD_r {A : Nat → Prop} {a b : va_W} (h : va_D A (a ++ b)) : va_D A b := by
  have key : ∀ (k : Nat) (q : Nat × va_E), b[k]? = some q → (a ++ b)[a.length + k]? = some q := fun k q hk => by
    rw [List.getElem?_append_right (Nat.le_add_right _ _), Nat.add_sub_cancel_left]; exact hk
  refine ⟨fun i j x y hi hj hxy => ?_, fun k q hk => h.2 _ q (key k q hk)⟩
  have := h.1 _ _ x y (key i x hi) (key j y hj) hxy
  omega
theorem xD_x {A : Nat → Prop} {a b : va_W} (h : va_D A (a ++ b)) (i j : Nat) (x y : Nat × va_E) (hi : a[i]? = some x) (hj : b[j]? = some y) : x.1 ≠ y.1 := by
  intro hxy
  have hl := (List.getElem?_eq_some_iff.mp hi).1
  have h1 : (a ++ b)[i]? = some x := by rw [List.getElem?_append_left hl]; exact hi
  have h2 : (a ++ b)[a.length + j]? = some y := by
    rw [List.getElem?_append_right (Nat.le_add_right _ _), Nat.add_sub_cancel_left]; exact hj
  have := h.1 _ _ x y h1 h2 hxy
  omega
theorem xP_l {D : va_G} {cl : List vw_C} {a b : va_W} {H : Heap} (h : va_P D cl (a ++ b) H) : va_P D cl a H := fun k q hk => h k q (by rw [List.getElem?_append_left (List.getElem?_eq_some_iff.mp hk).1]; exact hk)
theorem xP_r {D : va_G} {cl : List vw_C} {a b : va_W} {H : Heap} (h : va_P D cl (a ++ b) H) : va_P D cl b H := fun k q hk => h (a.length + k) q (by rw [List.getElem?_append_right (Nat.le_add_right _ _), Nat.add_sub_cancel_left]; exact hk)
/-- behind a call: the callee's part in its place, the rest as it was -/
theorem xj {D : va_G} {cl : List vw_C} {A : Nat → Prop} {H H1 : Heap} {u wc v wc' : va_W} (hP : va_P D cl (u ++ wc ++ v) H) (hD : va_D A (u ++ wc ++ v)) (hk : ∀ q : Nat, q < H.size → ¬ va_A wc H.size q → H1[q]? = H[q]?) (hF : ∀ q, va_A wc H.size q → A q) (hP1 : va_P D cl wc' H1) (hD1 : va_D (va_A wc H.size) wc') : va_P D cl (u ++ wc' ++ v) H1 ∧ va_D A (u ++ wc' ++ v) := by
  have hDu := xD_l (xD_l hD)
  have hDv := xD_r hD
  have nu : ∀ (i : Nat) (x : Nat × va_E), u[i]? = some x → x.1 < H.size ∧ ¬ va_A wc H.size x.1 := by
    intro i x hi
    have hl := ((xP_l (xP_l hP)) i x hi).lt
    refine ⟨hl, fun h => ?_⟩
    rcases h with ⟨k, e, h⟩ | h
    · exact xD_x (xD_l hD) i k x (x.1, e) hi h rfl
    · omega
  have nv : ∀ (i : Nat) (x : Nat × va_E), v[i]? = some x → x.1 < H.size ∧ ¬ va_A wc H.size x.1 := by
    intro i x hi
    have hl := ((xP_r hP) i x hi).lt
    refine ⟨hl, fun h => ?_⟩
    rcases h with ⟨k, e, h⟩ | h
    · have h2 : (u ++ wc)[u.length + k]? = some (x.1, e) := by
        rw [List.getElem?_append_right (Nat.le_add_right _ _), Nat.add_sub_cancel_left]; exact h
      exact xD_x hD (u.length + k) i (x.1, e) x h2 hi rfl
    · omega
  refine ⟨va_P.app (va_P.app (fun i x hi => ?_) hP1) (fun i x hi => ?_), va_D.app (va_D.app hDu (hD1.weaken (fun k q _ h => hF q.1 h)) (fun i j x y hx hy hxy => ?_)) hDv (fun i j x y hx hy hxy => ?_)⟩
  · exact ((xP_l (xP_l hP)) i x hi).kept (hk x.1 (nu i x hi).1 (nu i x hi).2)
  · exact ((xP_r hP) i x hi).kept (hk x.1 (nv i x hi).1 (nv i x hi).2)
  · exact (nu i x hx).2 (by rw [hxy]; exact hD1.2 j y hy)
  · by_cases hl : i < u.length
    · rw [List.getElem?_append_left hl] at hx
      have h2 : (u ++ wc)[i]? = some x := by rw [List.getElem?_append_left hl]; exact hx
      exact xD_x hD i j x y h2 hy hxy
    · rw [List.getElem?_append_right (by omega)] at hx
      exact (nv j y hy).2 (by rw [← hxy]; exact hD1.2 _ x hx)
theorem xPre_blind {E : En} {w : va_W} {sz : Nat} {av : List Value} : FrameBlind (va_Pc av (xPre E w sz)) := fun a U g mk q => ⟨q.1, q.2.1, q.2.2.1, va_K.moved (u := U) (U := U.calling g mk a) (Vm.Alike.refl U.vm) q.2.2.2.1, nst.same (s := U) (U := U.calling g mk a) rfl q.2.2.2.2.1, q.2.2.2.2.2⟩
theorem xfree {A : Nat → Prop} {s : State} {H : Heap} {locs : List Loc} {wc : va_W} (hA : ∀ q, s.heap.size ≤ q → A q) (hS : va_S A s.heap H locs) (hD : va_D A wc) : ∀ q, va_A wc H.size q → A q := by
  intro q h
  rcases h with ⟨k, e, h⟩ | h
  · exact hD.2 k _ h
  · exact hA q (Nat.le_trans hS.1 h)
section XC
variable {kc ks : Nat} {E : En} {p : Program} {l : Launch} {e : Env} {R : Room} {s : State} {m : MethodId} {args : Array Value} {below : List Frame} {meth : Method} {c : Code} {Z : State → Prop} {A : Nat → Prop} {w w' u v wc wc' : va_W} {pc nL : Nat} {lv : List (Nat × Value)} {st stk As av : List Value} {cc : ByteArray} {ws : List Cond} {own : String}
variable {y : MethodName} {ws2 ws2' : List Cond} {bytes : ByteArray} {maxL index : Nat} {ret : Option FieldType} {rm2 : Room} {Cn : String} {T : u_T} {N b : Nat} {fs : List Value} {r : Int32}
theorem xp (hK : va_K E.1 vwCl (tt E) s) (hN : nst s) {H : Heap} (hP : va_P E.1 vwCl wc H) (hD : va_D A wc) : ∀ U : State, U.heap = H → s.WarmedH U.vm → va_Pc av (xPre E wc H.size) av.toArray U := fun U hU hW => ⟨rfl, by rw [hU], by rw [hU]; exact hP, va_K.moved hW.alike hK, nst.warm hW hN, hD.weaken (fun _ _ _ _ => trivial)⟩
theorem xw_callVI (C : Cx E p s m args meth c A cc nL ws own) (hM : CI l y ws2 rm2 (.ref b :: As) E wc wc' r) (n : Nat) (hG : GoodIn ws (wsV own index Cn y ws2)) (hw2 : ws2 = Cond.code y bytes maxL ret :: ws2') (hz : rm2.cells = 0 ∧ rm2.slots = 0) (hd : y.cls = Cn ∧ y.cls ≠ "java/lang/invoke/MethodHandle" ∧ y.cls ≠ "java/lang/invoke/VarHandle" ∧ (parseMethodDescriptor y.desc).map (fun d => d.parameters.length) = some n) (hR : rm2.frames + 1 ≤ R.frames ∧ 8 + (maxL + 11) + rm2.locals ≤ R.locals) (q0 ci : Nat) (hc : vwCl[ci]? = some (Cn, T, N)) (he : wc[q0]? = some (b, .inr (ci, fs))) (hn : As.length = n) (h8 : (st.map fun v => v.category).sum ≤ 8) (hrm : kc ≤ R.cells ∧ ks ≤ R.slots) (hst : stk = As.reverse ++ .ref b :: st) (hw : w = u ++ wc ++ v) (hw' : u ++ wc' ++ v = w') (d : decode cc pc = .ok (.invokevirtual index, 3)) (kk : XW E p l e R s m args below meth c Z A kc ks w' (pc + 3) nL lv (.int r :: st)) : XW E p l e R s m args below meth c Z A kc ks w pc nL lv stk := by
  subst hst hw hw'
  intro H locs ls hP hD hS hl
  have hPc := xP_r (xP_l hP)
  have hDc := xD_r (xD_l hD)
  have hFc := xfree (wc := wc) C.2.2.2.2.2.2.2.1 hS hDc
  refine va_calli (va_runV (As := As) (rest := st) ⟨C.1, C.2.1, C.2.2.1, C.2.2.2.1, C.2.2.2.2.1⟩ (hM H.size) (cwV n C.2.2.2.2.1 hG hw2 hz.1 hz.2 hd hR) ⟨xPre_blind, va_recv C.2.2.2.2.2.1 hPc hc he, xp C.2.2.2.2.2.1 C.2.2.2.2.2.2.1 hPc hDc⟩ rfl hn hl.1 rfl (lv_room h8) d hrm) hS (fun q _ h => hFc q h) hFc (fun r0 u0 t H1 locs1 ht hvm hp hB hz1 hk1 hS1 => ?_)
  obtain ⟨hP1, hD1⟩ := hB
  rw [ht] at hP1
  obtain ⟨hP2, hD2⟩ := xj hP hD hk1 hFc hP1 hD1
  have hp : r0 = r := hp
  subst hp
  exact kk H1 locs1 ls hP2 hD2 hS1 hl
theorem xw_callVV (C : Cx E p s m args meth c A cc nL ws own) (hM : CV l y ws2 rm2 (.ref b :: As) E wc wc') (n : Nat) (hG : GoodIn ws (wsV own index Cn y ws2)) (hw2 : ws2 = Cond.code y bytes maxL ret :: ws2') (hz : rm2.cells = 0 ∧ rm2.slots = 0) (hd : y.cls = Cn ∧ y.cls ≠ "java/lang/invoke/MethodHandle" ∧ y.cls ≠ "java/lang/invoke/VarHandle" ∧ (parseMethodDescriptor y.desc).map (fun d => d.parameters.length) = some n) (hR : rm2.frames + 1 ≤ R.frames ∧ 8 + (maxL + 11) + rm2.locals ≤ R.locals) (q0 ci : Nat) (hc : vwCl[ci]? = some (Cn, T, N)) (he : wc[q0]? = some (b, .inr (ci, fs))) (hn : As.length = n) (h8 : (st.map fun v => v.category).sum ≤ 8) (hrm : kc ≤ R.cells ∧ ks ≤ R.slots) (hst : stk = As.reverse ++ .ref b :: st) (hw : w = u ++ wc ++ v) (hw' : u ++ wc' ++ v = w') (d : decode cc pc = .ok (.invokevirtual index, 3)) (kk : XW E p l e R s m args below meth c Z A kc ks w' (pc + 3) nL lv st) : XW E p l e R s m args below meth c Z A kc ks w pc nL lv stk := by
  subst hst hw hw'
  intro H locs ls hP hD hS hl
  have hPc := xP_r (xP_l hP)
  have hDc := xD_r (xD_l hD)
  have hFc := xfree (wc := wc) C.2.2.2.2.2.2.2.1 hS hDc
  refine va_callv (va_runV (As := As) (rest := st) ⟨C.1, C.2.1, C.2.2.1, C.2.2.2.1, C.2.2.2.2.1⟩ (hM H.size) (cwV n C.2.2.2.2.1 hG hw2 hz.1 hz.2 hd hR) ⟨xPre_blind, va_recv C.2.2.2.2.2.1 hPc hc he, xp C.2.2.2.2.2.1 C.2.2.2.2.2.2.1 hPc hDc⟩ rfl hn hl.1 rfl (lv_room h8) d hrm) hS (fun q _ h => hFc q h) hFc (fun u0 t H1 locs1 ht hvm hp hB hz1 hk1 hS1 => ?_)
  obtain ⟨hP1, hD1⟩ := hB
  rw [ht] at hP1
  obtain ⟨hP2, hD2⟩ := xj hP hD hk1 hFc hP1 hD1
  exact kk H1 locs1 ls hP2 hD2 hS1 hl
theorem xw_callSI (C : Cx E p s m args meth c A cc nL ws own) (hM : CI l y ws2 rm2 As E wc wc' r) (n : Nat) (hG : GoodIn ws (va_wsS own index y ws2)) (hw2 : ws2 = Cond.code y bytes maxL ret :: ws2') (hz : rm2.cells = 0 ∧ rm2.slots = 0) (hd : y.cls ≠ "java/lang/invoke/MethodHandle" ∧ y.cls ≠ "java/lang/invoke/VarHandle" ∧ (parseMethodDescriptor y.desc).map (fun d => d.parameters.length) = some n) (hR : rm2.frames + 1 ≤ R.frames ∧ 8 + (maxL + 11) + rm2.locals ≤ R.locals) (hn : As.length = n) (h8 : (st.map fun v => v.category).sum ≤ 8) (hrm : kc ≤ R.cells ∧ ks ≤ R.slots) (hst : stk = As.reverse ++ st) (hw : w = u ++ wc ++ v) (hw' : u ++ wc' ++ v = w') (d : decode cc pc = .ok (.invokestatic index, 3)) (kk : XW E p l e R s m args below meth c Z A kc ks w' (pc + 3) nL lv (.int r :: st)) : XW E p l e R s m args below meth c Z A kc ks w pc nL lv stk := by
  subst hst hw hw'
  intro H locs ls hP hD hS hl
  have hPc := xP_r (xP_l hP)
  have hDc := xD_r (xD_l hD)
  have hFc := xfree (wc := wc) C.2.2.2.2.2.2.2.1 hS hDc
  refine va_calli (va_runS (As := As) (rest := st) ⟨C.1, C.2.1, C.2.2.1, C.2.2.2.1, C.2.2.2.2.1⟩ (hM H.size) (va_cwS n C.2.2.2.2.1 hG hw2 hz.1 hz.2 hd hR) ⟨xPre_blind, xp C.2.2.2.2.2.1 C.2.2.2.2.2.2.1 hPc hDc⟩ rfl hn hl.1 rfl (lv_room h8) d hrm) hS (fun q _ h => hFc q h) hFc (fun r0 u0 t H1 locs1 ht hvm hp hB hz1 hk1 hS1 => ?_)
  obtain ⟨hP1, hD1⟩ := hB
  rw [ht] at hP1
  obtain ⟨hP2, hD2⟩ := xj hP hD hk1 hFc hP1 hD1
  have hp : r0 = r := hp
  subst hp
  exact kk H1 locs1 ls hP2 hD2 hS1 hl
theorem xw_callSV (C : Cx E p s m args meth c A cc nL ws own) (hM : CV l y ws2 rm2 As E wc wc') (n : Nat) (hG : GoodIn ws (va_wsS own index y ws2)) (hw2 : ws2 = Cond.code y bytes maxL ret :: ws2') (hz : rm2.cells = 0 ∧ rm2.slots = 0) (hd : y.cls ≠ "java/lang/invoke/MethodHandle" ∧ y.cls ≠ "java/lang/invoke/VarHandle" ∧ (parseMethodDescriptor y.desc).map (fun d => d.parameters.length) = some n) (hR : rm2.frames + 1 ≤ R.frames ∧ 8 + (maxL + 11) + rm2.locals ≤ R.locals) (hn : As.length = n) (h8 : (st.map fun v => v.category).sum ≤ 8) (hrm : kc ≤ R.cells ∧ ks ≤ R.slots) (hst : stk = As.reverse ++ st) (hw : w = u ++ wc ++ v) (hw' : u ++ wc' ++ v = w') (d : decode cc pc = .ok (.invokestatic index, 3)) (kk : XW E p l e R s m args below meth c Z A kc ks w' (pc + 3) nL lv st) : XW E p l e R s m args below meth c Z A kc ks w pc nL lv stk := by
  subst hst hw hw'
  intro H locs ls hP hD hS hl
  have hPc := xP_r (xP_l hP)
  have hDc := xD_r (xD_l hD)
  have hFc := xfree (wc := wc) C.2.2.2.2.2.2.2.1 hS hDc
  refine va_callv (va_runS (As := As) (rest := st) ⟨C.1, C.2.1, C.2.2.1, C.2.2.2.1, C.2.2.2.2.1⟩ (hM H.size) (va_cwS n C.2.2.2.2.1 hG hw2 hz.1 hz.2 hd hR) ⟨xPre_blind, xp C.2.2.2.2.2.1 C.2.2.2.2.2.2.1 hPc hDc⟩ rfl hn hl.1 rfl (lv_room h8) d hrm) hS (fun q _ h => hFc q h) hFc (fun u0 t H1 locs1 ht hvm hp hB hz1 hk1 hS1 => ?_)
  obtain ⟨hP1, hD1⟩ := hB
  rw [ht] at hP1
  obtain ⟨hP2, hD2⟩ := xj hP hD hk1 hFc hP1 hD1
  exact kk H1 locs1 ls hP2 hD2 hS1 hl
theorem xw_callNI (C : Cx E p s m args meth c A cc nL ws own) (hM : CI l y ws2 rm2 As E wc wc' r) (n : Nat) (hG : GoodIn ws ws2) (hw2 : ws2 = Cond.code y bytes maxL ret :: ws2') (hz : rm2.cells = 0 ∧ rm2.slots = 0) (hnl : (own, index, y) ∈ nstL) (hini : Cond.initialized y.cls ∈ ws) (hsta : Cond.static y ∈ ws) (hd : y.cls ≠ "java/lang/invoke/MethodHandle" ∧ y.cls ≠ "java/lang/invoke/VarHandle" ∧ (parseMethodDescriptor y.desc).map (fun d => d.parameters.length) = some n) (hR : rm2.frames + 1 ≤ R.frames ∧ 8 + (maxL + 11) + rm2.locals ≤ R.locals) (hn : As.length = n) (h8 : (st.map fun v => v.category).sum ≤ 8) (hrm : kc ≤ R.cells ∧ ks ≤ R.slots) (hst : stk = As.reverse ++ st) (hw : w = u ++ wc ++ v) (hw' : u ++ wc' ++ v = w') (d : decode cc pc = .ok (.invokestatic index, 3)) (kk : XW E p l e R s m args below meth c Z A kc ks w' (pc + 3) nL lv (.int r :: st)) : XW E p l e R s m args below meth c Z A kc ks w pc nL lv stk := by
  subst hst hw hw'
  intro H locs ls hP hD hS hl
  have hPc := xP_r (xP_l hP)
  have hDc := xD_r (xD_l hD)
  have hFc := xfree (wc := wc) C.2.2.2.2.2.2.2.1 hS hDc
  refine va_calli (va_runSN (As := As) (rest := st) ⟨C.1, C.2.1, C.2.2.1, C.2.2.2.1, C.2.2.2.2.1⟩ (hM H.size) ⟨va_cnB n C.2.2.2.2.1 hG hw2 hz.1 hz.2 (C.2.2.2.2.2.2.1.1 _ hnl) (C.2.2.2.2.1 _ hini) hd hR, C.2.2.2.2.1 _ hsta, trivial⟩ ⟨xPre_blind, xp C.2.2.2.2.2.1 C.2.2.2.2.2.2.1 hPc hDc⟩ rfl hn hl.1 rfl (lv_room h8) d hrm) hS (fun q _ h => hFc q h) hFc (fun r0 u0 t H1 locs1 ht hvm hp hB hz1 hk1 hS1 => ?_)
  obtain ⟨hP1, hD1⟩ := hB
  rw [ht] at hP1
  obtain ⟨hP2, hD2⟩ := xj hP hD hk1 hFc hP1 hD1
  have hp : r0 = r := hp
  subst hp
  exact kk H1 locs1 ls hP2 hD2 hS1 hl
theorem xw_callNV (C : Cx E p s m args meth c A cc nL ws own) (hM : CV l y ws2 rm2 As E wc wc') (n : Nat) (hG : GoodIn ws ws2) (hw2 : ws2 = Cond.code y bytes maxL ret :: ws2') (hz : rm2.cells = 0 ∧ rm2.slots = 0) (hnl : (own, index, y) ∈ nstL) (hini : Cond.initialized y.cls ∈ ws) (hsta : Cond.static y ∈ ws) (hd : y.cls ≠ "java/lang/invoke/MethodHandle" ∧ y.cls ≠ "java/lang/invoke/VarHandle" ∧ (parseMethodDescriptor y.desc).map (fun d => d.parameters.length) = some n) (hR : rm2.frames + 1 ≤ R.frames ∧ 8 + (maxL + 11) + rm2.locals ≤ R.locals) (hn : As.length = n) (h8 : (st.map fun v => v.category).sum ≤ 8) (hrm : kc ≤ R.cells ∧ ks ≤ R.slots) (hst : stk = As.reverse ++ st) (hw : w = u ++ wc ++ v) (hw' : u ++ wc' ++ v = w') (d : decode cc pc = .ok (.invokestatic index, 3)) (kk : XW E p l e R s m args below meth c Z A kc ks w' (pc + 3) nL lv st) : XW E p l e R s m args below meth c Z A kc ks w pc nL lv stk := by
  subst hst hw hw'
  intro H locs ls hP hD hS hl
  have hPc := xP_r (xP_l hP)
  have hDc := xD_r (xD_l hD)
  have hFc := xfree (wc := wc) C.2.2.2.2.2.2.2.1 hS hDc
  refine va_callv (va_runSN (As := As) (rest := st) ⟨C.1, C.2.1, C.2.2.1, C.2.2.2.1, C.2.2.2.2.1⟩ (hM H.size) ⟨va_cnB n C.2.2.2.2.1 hG hw2 hz.1 hz.2 (C.2.2.2.2.2.2.1.1 _ hnl) (C.2.2.2.2.1 _ hini) hd hR, C.2.2.2.2.1 _ hsta, trivial⟩ ⟨xPre_blind, xp C.2.2.2.2.2.1 C.2.2.2.2.2.2.1 hPc hDc⟩ rfl hn hl.1 rfl (lv_room h8) d hrm) hS (fun q _ h => hFc q h) hFc (fun u0 t H1 locs1 ht hvm hp hB hz1 hk1 hS1 => ?_)
  obtain ⟨hP1, hD1⟩ := hB
  rw [ht] at hP1
  obtain ⟨hP2, hD2⟩ := xj hP hD hk1 hFc hP1 hD1
  exact kk H1 locs1 ls hP2 hD2 hS1 hl
end XC
theorem xc_I {l : Launch} {y : MethodName} {ws ws' : List Cond} {cc : ByteArray} {maxL : Nat} {ret : Option FieldType} {rm : Room} {av : List Value} {E : En} {w w' : va_W} {v : Int32} (hy : plainName y.cls = true) (hw : ws = Cond.code y cc maxL ret :: ws') (hlen : (lg_sl av).length ≤ maxL) (lv0 : List (Nat × Value)) (hl0 : lv_args 0 av = lv0) (body : ∀ (p : Program) (e : Env) (s : State) (m : MethodId) (below : List Frame) (meth : Method) (c : Code) (A : Nat → Prop), Cx E p s m av.toArray meth c A cc maxL ws y.cls → meth.sig.returnType = ret → XW E p l e rm s m av.toArray below meth c (ZI E w' v A below av.toArray s 0 0) A 0 0 w 0 maxL lv0 []) : CI l y ws rm av E w w' v := by
  intro sz
  refine Met.ofW (cc := cc) (maxL := maxL) (ret := ret) hy hw ?_
  intro p e s m args below meth c s₁ B hml hv
  obtain ⟨rfl, hsz, hP, hK, hN, hD0⟩ := hv
  subst hsz
  have hD := hD0.self (sz := s.heap.size)
  have C : Cx E p s m av.toArray meth c (va_A w s.heap.size) cc maxL ws y.cls := ⟨B.exec, B.bytes, hml, findClass_of_methodNamed B.named, atoms_spec (ws := ws) B.pre, hK, hN, fun q h => Or.inr h, B.notSynchronized⟩
  have hl := lv_entry av (n := maxL) hlen
  rw [lg_entry_eq]
  rw [hl0] at hl
  exact body p e s m below meth c _ C B.returns s.heap [] _ hP hD va_S.rf hl
theorem xc_V {l : Launch} {y : MethodName} {ws ws' : List Cond} {cc : ByteArray} {maxL : Nat} {ret : Option FieldType} {rm : Room} {av : List Value} {E : En} {w w' : va_W} (hy : plainName y.cls = true) (hw : ws = Cond.code y cc maxL ret :: ws') (hlen : (lg_sl av).length ≤ maxL) (lv0 : List (Nat × Value)) (hl0 : lv_args 0 av = lv0) (body : ∀ (p : Program) (e : Env) (s : State) (m : MethodId) (below : List Frame) (meth : Method) (c : Code) (A : Nat → Prop), Cx E p s m av.toArray meth c A cc maxL ws y.cls → meth.sig.returnType = ret → XW E p l e rm s m av.toArray below meth c (ZV E w' A below av.toArray s 0 0) A 0 0 w 0 maxL lv0 []) : CV l y ws rm av E w w' := by
  intro sz
  refine Met.ofW (cc := cc) (maxL := maxL) (ret := ret) hy hw ?_
  intro p e s m args below meth c s₁ B hml hv
  obtain ⟨rfl, hsz, hP, hK, hN, hD0⟩ := hv
  subst hsz
  have hD := hD0.self (sz := s.heap.size)
  have C : Cx E p s m av.toArray meth c (va_A w s.heap.size) cc maxL ws y.cls := ⟨B.exec, B.bytes, hml, findClass_of_methodNamed B.named, atoms_spec (ws := ws) B.pre, hK, hN, fun q h => Or.inr h, B.notSynchronized⟩
  have hl := lv_entry av (n := maxL) hlen
  rw [lg_entry_eq]
  rw [hl0] at hl
  exact body p e s m below meth c _ C B.returns s.heap [] _ hP hD va_S.rf hl
