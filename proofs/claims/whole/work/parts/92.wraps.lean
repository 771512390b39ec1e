/-! the law's wrappers, which catch -/
def wO (cL : ClassId) (ol : Nat) (f : Nat → Int64) : va_W := [(ol, .inl (cL, 1, .inr (.inl f)))]
def xPreL (E : En) (cL : ClassId) (w : va_W) (sz : Nat) (U : State) : Prop := xPreT E w sz U ∧ va_K E.1 vwCl [(cL, .long)] U
/-- CONTRACT of a wrapper -/
def CL (l : Launch) (y : MethodName) (ws : List Cond) (rm : Room) (av : List Value) (E : En) (cL : ClassId) (w w' : va_W) (v : Int32) : Prop := ∀ sz, Met l y ws rm (va_Pc av (xPreL E cL w sz)) (QI E w' v (va_A w sz)) 1 6 (va_A w sz)
theorem xPreL_blind {E : En} {cL : ClassId} {w : va_W} {sz : Nat} {av : List Value} : FrameBlind (va_Pc av (xPreL E cL w sz)) := fun a U g mk q => by
  have h1 := xPreT_blind (E := E) (w := w) (sz := sz) (av := av) a U g mk ⟨q.1, q.2.1⟩
  exact ⟨h1.1, h1.2, va_K.moved (u := U) (U := U.calling g mk a) (Vm.Alike.refl U.vm) q.2.2⟩
theorem xc_L {l : Launch} {y : MethodName} {ws ws' : List Cond} {cc : ByteArray} {maxL : Nat} {ret : Option FieldType} {hh : List (Nat × Nat × Nat × Nat)} {rm : Room} {av : List Value} {E : En} {cL : ClassId} {w w' : va_W} {v : Int32} (hy : plainName y.cls = true) (hw : ws = Cond.codeWith y cc maxL ret hh :: ws') (hlen : (lg_sl av).length ≤ maxL) (lv0 : List (Nat × Value)) (hl0 : lv_args 0 av = lv0) (body : ∀ (p : Program) (e : Env) (s : State) (m : MethodId) (below : List Frame) (meth : Method) (c : Code) (A : Nat → Prop), Cx E p s m av.toArray meth c A cc maxL ws y.cls → meth.sig.returnType = ret → thr A s → va_K E.1 vwCl [(cL, .long)] s → c.exceptionTable.toList = tableOf hh → XW E p l e rm s m av.toArray below meth c (ZI E w' v A below av.toArray s 1 6) A 0 0 w 0 maxL lv0 []) : CL l y ws rm av E cL w w' v := by
  intro sz
  refine va_MetW (cc := cc) (maxL := maxL) (ret := ret) hy hw ?_
  intro p e s m args below meth c s₁ B hml hv
  obtain ⟨rfl, ⟨⟨hsz, hP, hK, hN, hD0⟩, hT⟩, hKL⟩ := hv
  subst hsz
  have hD := hD0.self (sz := s.heap.size)
  have hts := atoms_spec (ws := ws) B.pre
  have C : Cx E p s m av.toArray meth c (va_A w s.heap.size) cc maxL ws y.cls := ⟨B.exec, B.bytes, hml, findClass_of_methodNamed B.named, hts, hK, hN, fun q h => Or.inr h, B.notSynchronized⟩
  have hl := lv_entry av (n := maxL) hlen
  rw [lg_entry_eq]
  rw [hl0] at hl
  exact body p e s m below meth c _ C B.returns hT hKL (vx_table (x := y) B (hts _ (by rw [hw]; exact List.mem_cons_self))) s.heap [] _ hP hD va_S.rf hl
theorem set_last {α : Type} (a : List α) (x y : α) : (a ++ [x]).set a.length y = a ++ [y] := by
  induction a with
  | nil => rfl
  | cons b a ih => show b :: ((a ++ [x]).set a.length y) = b :: (a ++ [y]); rw [ih]
theorem get_last {α : Type} (a : List α) (x : α) : (a ++ [x])[a.length]? = some x := by
  rw [List.getElem?_append_right (Nat.le_refl _), Nat.sub_self]; rfl
section WR
variable {kc ks : Nat} {E : En} {p : Program} {l : Launch} {e : Env} {R : Room} {s : State} {m : MethodId} {args : Array Value} {below : List Frame} {meth : Method} {c : Code} {Z : State → Prop} {A : Nat → Prop} {w w' u v wc : va_W} {pc nL : Nat} {lv : List (Nat × Value)} {st stk As : List Value} {cc : ByteArray} {ws : List Cond} {own : String}
theorem xw_last (C : Cx E p s m args meth c A cc nL ws own) {cL : ClassId} (hKL : va_K E.1 vwCl [(cL, .long)] s) {a n : Nat} {f : Nat → Int64} {i : Int32} {x : Int64} (q0 : Nat) (he : w[q0]? = some (a, .inl (cL, n, .inr (.inl f)))) (hin : vp_in i n) (hw : w.set q0 (a, .inl (cL, n, .inr (.inl (vp_updL f i.toNatClampNeg x)))) = w') (d : decode cc pc = .ok (.lastore, 1)) (kk : XW E p l e R s m args below meth c Z A kc ks w' (pc + 1) nL lv st) : XW E p l e R s m args below meth c Z A kc ks w pc nL lv (.long x :: .int i :: .ref a :: st) := by
  subst hw
  exact fun H locs ls hP hD hS hl => va_last C.1 C.2.1 hKL hP hD hS q0 0 he rfl hin d (fun H1 l1 a1 b1 c1 => kk H1 l1 ls a1 b1 c1 hl)
theorem xw_lald (C : Cx E p s m args meth c A cc nL ws own) {cL : ClassId} (hKL : va_K E.1 vwCl [(cL, .long)] s) {a n : Nat} {f : Nat → Int64} {i : Int32} (q0 : Nat) (he : w[q0]? = some (a, .inl (cL, n, .inr (.inl f)))) (hin : vp_in i n) (d : decode cc pc = .ok (.laload, 1)) (kk : XW E p l e R s m args below meth c Z A kc ks w (pc + 1) nL lv (.long (f i.toNatClampNeg) :: st)) : XW E p l e R s m args below meth c Z A kc ks w pc nL lv (.int i :: .ref a :: st) := fun H locs ls hP hD hS hl => va_lald C.1 C.2.1 hKL hP q0 0 he rfl hin d (kk H locs ls hP hD hS hl)
/-- a call that throws, caught by the first row of this method's table -/
theorem xw_callT {y : MethodName} {ws2 ws2' : List Cond} {bytes : ByteArray} {maxL index : Nat} {ret : Option FieldType} {rm2 : Room} {Cn : String} {T : u_T} {N b : Nat} {fs : List Value} (C : Cx E p s m args meth c A cc nL ws own) (hM : CT l y ws2 rm2 (.ref b :: As) E wc) (n : Nat) (hG : GoodIn ws (wsV own index Cn y ws2)) (hw2 : ws2 = Cond.code y bytes maxL ret :: ws2') (hz : rm2.cells = 1 ∧ rm2.slots = 6) (hd : y.cls = Cn ∧ y.cls ≠ "java/lang/invoke/MethodHandle" ∧ y.cls ≠ "java/lang/invoke/VarHandle" ∧ (parseMethodDescriptor y.desc).map (fun d => d.parameters.length) = some n) (hR : rm2.frames + 1 ≤ R.frames ∧ 8 + (maxL + 11) + rm2.locals ≤ R.locals) (q0 ci : Nat) (hc : vwCl[ci]? = some (Cn, T, N)) (he : wc[q0]? = some (b, .inr (ci, fs))) (hn : As.length = n) (h8 : (st.map fun v => v.category).sum ≤ 8) (hrm : kc + 1 ≤ R.cells ∧ ks + 6 ≤ R.slots) (hst : stk = As.reverse ++ .ref b :: st) (hw : w = u ++ wc ++ v) (d : decode cc pc = .ok (.invokevirtual index, 3))
    (hT : thr A s) (x : ExceptionTableEntry) (suf : List ExceptionTableEntry) (htab : c.exceptionTable.toList = x :: suf) (hx : covers x pc = true) (h0 : x.catchType ≠ 0) (hlink : Cond.classLink own x.catchType NSE ∈ ws) (kk : ∀ q : Nat, XW E p l e R s m args below meth c Z A (kc + 1) (ks + 6) w x.handlerPc nL lv [.ref q]) : XW E p l e R s m args below meth c Z A kc ks w pc nL lv stk := by
  subst hst hw
  intro H locs ls hP hD hS hl
  have hPc := xP_r (xP_l hP)
  have hDc := xD_r (xD_l hD)
  have hFc := xfree (wc := wc) C.2.2.2.2.2.2.2.1 hS hDc
  refine vx_calli (vx_runV (As := As) (rest := st) ⟨C.1, C.2.1, C.2.2.1, C.2.2.2.1, C.2.2.2.2.1⟩ (hM H.size) (cwV n C.2.2.2.2.1 hG hw2 hz.1 hz.2 hd hR) ⟨xPreT_blind, va_recv C.2.2.2.2.2.1 hPc hc he, fun U hU hW => ⟨rfl, (xp (av := .ref b :: As) C.2.2.2.2.2.1 C.2.2.2.2.2.2.1 hPc hDc U hU hW).2, thr.go hT hS hU hW hFc⟩⟩ rfl hn hl.1 rfl (lv_room h8) d hrm) hS (fun q _ h => hFc q h) hFc (fun q _ h => hFc q h) ?_ ?_
  · intro En ce q9 u0 t H1 locs1 ht hvm hp hB hz1 hk1 hS1 hce hcv hcl
    obtain ⟨hEn, hP1, hD1⟩ := hB
    subst hEn
    rw [ht] at hP1
    obtain ⟨hP2, hD2⟩ := xj hP hD hk1 hFc hP1 hD1
    exact ct_catch C.2.2.2.1 x suf htab hx h0 (C.2.2.2.2.1 _ hlink) (va_Nw.use rfl (hT.2.2.2.2.2 _ List.mem_cons_self)) hce hcv hcl (kk q9 H1 locs1 ls hP2 hD2 hS1 hl)
  · intro r0 u0 t H1 locs1 ht hvm hp
    exact hp.elim
end WR
abbrev rmL_w : Room := { frames := 90, cells := 1, slots := 6, locals := 2000 }
set_option maxHeartbeats 4000000 in
set_option maxRecDepth 100000 in
theorem ok_L_ask_R {l : Launch} {E : En} {cL : ClassId} {o ol q0 : Nat} {fs : List Value} {p1 p2 : Int32} {f : Nat → Int64} {wc wc' : va_W} {v : Int32} (hM : CI l yX5_ask wsX5_ask rmX5_ask_T [.ref o, .int p1, .int p2] E wc wc' v) (he : wc[q0]? = some (o, .inr (5, fs))) : CL l yL_ask wsL_ask rmL_w [.ref o, .int p1, .int p2, .ref ol] E cL (wc ++ wO cL ol f) (wc' ++ wO cL ol (vp_updL f 0 v.toInt64)) 0 := by
  refine xc_L (by decide) rfl (Nat.le_of_ble_eq_true rfl) [(0, .ref o), (1, .int p1), (2, .int p2), (3, .ref ol)] rfl (fun p e s m below meth c A C hr hT hKL htab => ?_)
  generalize ([.ref o, .int p1, .int p2, .ref ol] : List Value).toArray = args at C ⊢
  refine xw_widen 1 6 (Nat.zero_le _) (Nat.zero_le _) ?_
  refine xw_aload_n C dL_ask_0 rfl 3 rfl ?_
  refine xw_iconst C 0 dL_ask_1 (by decide) ?_
  refine xw_aload_n C dL_ask_2 rfl 0 rfl ?_
  refine xw_iload_n C dL_ask_3 rfl 1 rfl ?_
  refine xw_iload_n C dL_ask_4 rfl 2 rfl ?_
  refine xw_callVI (w' := wc' ++ wO cL ol f) (u := []) (v := wO cL ol f) C hM 2 gL_ask_X5_ask rfl ⟨rfl, rfl⟩ (by decide +kernel) ⟨Nat.le_of_ble_eq_true rfl, Nat.le_of_ble_eq_true rfl⟩ q0 5 rfl he rfl (Nat.le_of_ble_eq_true rfl) ⟨Nat.le_of_ble_eq_true rfl, Nat.le_of_ble_eq_true rfl⟩ rfl rfl rfl dL_ask_5 ?_
  refine xw_i2l C dL_ask_8 ?_
  refine xw_last C hKL wc'.length (get_last _ _) (show vp_in (nI 0) 1 from vp_in_nI (by decide) (by decide)) (set_last _ _ _) dL_ask_9 ?_
  refine xw_goto C 17 dL_ask_10 (by decide) ?_
  refine xw_iconst C 0 dL_ask_17 (by decide) ?_
  exact xw_iret C hr dL_ask_18
set_option maxHeartbeats 4000000 in
set_option maxRecDepth 100000 in
theorem ok_L_ask_X {l : Launch} {E : En} {cL : ClassId} {o ol q0 : Nat} {fs : List Value} {p1 p2 : Int32} {f : Nat → Int64} {wc : va_W} (hM : CT l yX5_ask wsX5_ask rmX5_X [.ref o, .int p1, .int p2] E wc) (he : wc[q0]? = some (o, .inr (5, fs))) : CL l yL_ask wsL_ask rmL_w [.ref o, .int p1, .int p2, .ref ol] E cL (wc ++ wO cL ol f) (wc ++ wO cL ol f) 1 := by
  refine xc_L (by decide) rfl (Nat.le_of_ble_eq_true rfl) [(0, .ref o), (1, .int p1), (2, .int p2), (3, .ref ol)] rfl (fun p e s m below meth c A C hr hT hKL htab => ?_)
  generalize ([.ref o, .int p1, .int p2, .ref ol] : List Value).toArray = args at C ⊢
  have ml : Cond.classLink RL 13 NSE ∈ wsL_ask := by decide +kernel
  refine xw_aload_n C dL_ask_0 rfl 3 rfl ?_
  refine xw_iconst C 0 dL_ask_1 (by decide) ?_
  refine xw_aload_n C dL_ask_2 rfl 0 rfl ?_
  refine xw_iload_n C dL_ask_3 rfl 1 rfl ?_
  refine xw_iload_n C dL_ask_4 rfl 2 rfl ?_
  refine xw_callT (u := []) (v := wO cL ol f) C hM 2 gL_ask_X5_ask rfl ⟨rfl, rfl⟩ (by decide +kernel) ⟨Nat.le_of_ble_eq_true rfl, Nat.le_of_ble_eq_true rfl⟩ q0 5 rfl he rfl (Nat.le_of_ble_eq_true rfl) ⟨Nat.le_of_ble_eq_true rfl, Nat.le_of_ble_eq_true rfl⟩ rfl rfl dL_ask_5 hT ⟨0, 10, 13, 13⟩ [] htab (by decide) (by decide) ml (fun q9 => ?_)
  refine xw_astore C dL_ask_13 (by decide) (lv' := [(4, .ref q9), (0, .ref o), (1, .int p1), (2, .int p2), (3, .ref ol)]) rfl ?_
  refine xw_iconst C 1 dL_ask_15 (by decide) ?_
  exact xw_iret C hr dL_ask_16
set_option maxHeartbeats 4000000 in
set_option maxRecDepth 100000 in
theorem ok_L_remove_R {l : Launch} {E : En} {cL : ClassId} {o ol q0 : Nat} {fs : List Value} {p1 p2 : Int32} {f : Nat → Int64} {wc wc' : va_W} {v : Int32} (hM : CI l yX5_remove wsX5_remove rmX5_remove_T [.ref o, .int p1, .int p2] E wc wc' v) (he : wc[q0]? = some (o, .inr (5, fs))) : CL l yL_remove wsL_remove rmL_w [.ref o, .int p1, .int p2, .ref ol] E cL (wc ++ wO cL ol f) (wc' ++ wO cL ol (vp_updL f 0 v.toInt64)) 0 := by
  refine xc_L (by decide) rfl (Nat.le_of_ble_eq_true rfl) [(0, .ref o), (1, .int p1), (2, .int p2), (3, .ref ol)] rfl (fun p e s m below meth c A C hr hT hKL htab => ?_)
  generalize ([.ref o, .int p1, .int p2, .ref ol] : List Value).toArray = args at C ⊢
  refine xw_widen 1 6 (Nat.zero_le _) (Nat.zero_le _) ?_
  refine xw_aload_n C dL_remove_0 rfl 3 rfl ?_
  refine xw_iconst C 0 dL_remove_1 (by decide) ?_
  refine xw_aload_n C dL_remove_2 rfl 0 rfl ?_
  refine xw_iload_n C dL_remove_3 rfl 1 rfl ?_
  refine xw_iload_n C dL_remove_4 rfl 2 rfl ?_
  refine xw_callVI (w' := wc' ++ wO cL ol f) (u := []) (v := wO cL ol f) C hM 2 gL_remove_X5_remove rfl ⟨rfl, rfl⟩ (by decide +kernel) ⟨Nat.le_of_ble_eq_true rfl, Nat.le_of_ble_eq_true rfl⟩ q0 5 rfl he rfl (Nat.le_of_ble_eq_true rfl) ⟨Nat.le_of_ble_eq_true rfl, Nat.le_of_ble_eq_true rfl⟩ rfl rfl rfl dL_remove_5 ?_
  refine xw_i2l C dL_remove_8 ?_
  refine xw_last C hKL wc'.length (get_last _ _) (show vp_in (nI 0) 1 from vp_in_nI (by decide) (by decide)) (set_last _ _ _) dL_remove_9 ?_
  refine xw_goto C 17 dL_remove_10 (by decide) ?_
  refine xw_iconst C 0 dL_remove_17 (by decide) ?_
  exact xw_iret C hr dL_remove_18
set_option maxHeartbeats 4000000 in
set_option maxRecDepth 100000 in
theorem ok_L_remove_X {l : Launch} {E : En} {cL : ClassId} {o ol q0 : Nat} {fs : List Value} {p1 p2 : Int32} {f : Nat → Int64} {wc : va_W} (hM : CT l yX5_remove wsX5_remove rmX5_X [.ref o, .int p1, .int p2] E wc) (he : wc[q0]? = some (o, .inr (5, fs))) : CL l yL_remove wsL_remove rmL_w [.ref o, .int p1, .int p2, .ref ol] E cL (wc ++ wO cL ol f) (wc ++ wO cL ol f) 1 := by
  refine xc_L (by decide) rfl (Nat.le_of_ble_eq_true rfl) [(0, .ref o), (1, .int p1), (2, .int p2), (3, .ref ol)] rfl (fun p e s m below meth c A C hr hT hKL htab => ?_)
  generalize ([.ref o, .int p1, .int p2, .ref ol] : List Value).toArray = args at C ⊢
  have ml : Cond.classLink RL 13 NSE ∈ wsL_remove := by decide +kernel
  refine xw_aload_n C dL_remove_0 rfl 3 rfl ?_
  refine xw_iconst C 0 dL_remove_1 (by decide) ?_
  refine xw_aload_n C dL_remove_2 rfl 0 rfl ?_
  refine xw_iload_n C dL_remove_3 rfl 1 rfl ?_
  refine xw_iload_n C dL_remove_4 rfl 2 rfl ?_
  refine xw_callT (u := []) (v := wO cL ol f) C hM 2 gL_remove_X5_remove rfl ⟨rfl, rfl⟩ (by decide +kernel) ⟨Nat.le_of_ble_eq_true rfl, Nat.le_of_ble_eq_true rfl⟩ q0 5 rfl he rfl (Nat.le_of_ble_eq_true rfl) ⟨Nat.le_of_ble_eq_true rfl, Nat.le_of_ble_eq_true rfl⟩ rfl rfl dL_remove_5 hT ⟨0, 10, 13, 13⟩ [] htab (by decide) (by decide) ml (fun q9 => ?_)
  refine xw_astore C dL_remove_13 (by decide) (lv' := [(4, .ref q9), (0, .ref o), (1, .int p1), (2, .int p2), (3, .ref ol)]) rfl ?_
  refine xw_iconst C 1 dL_remove_15 (by decide) ?_
  exact xw_iret C hr dL_remove_16
set_option maxHeartbeats 4000000 in
set_option maxRecDepth 100000 in
theorem ok_L_look_R {l : Launch} {E : En} {cL : ClassId} {o ol q0 : Nat} {fs : List Value} {p1 p2 p3 : Int32} {f : Nat → Int64} {wc wc' : va_W} {v : Int32} (hM : CI l yX5_look wsX5_look rmX5_look_T [.ref o, .int p1, .int p2, .int p3] E wc wc' v) (he : wc[q0]? = some (o, .inr (5, fs))) : CL l yL_look wsL_look rmL_w [.ref o, .int p1, .int p2, .int p3, .ref ol] E cL (wc ++ wO cL ol f) (wc' ++ wO cL ol (vp_updL f 0 v.toInt64)) 0 := by
  refine xc_L (by decide) rfl (Nat.le_of_ble_eq_true rfl) [(0, .ref o), (1, .int p1), (2, .int p2), (3, .int p3), (4, .ref ol)] rfl (fun p e s m below meth c A C hr hT hKL htab => ?_)
  generalize ([.ref o, .int p1, .int p2, .int p3, .ref ol] : List Value).toArray = args at C ⊢
  refine xw_widen 1 6 (Nat.zero_le _) (Nat.zero_le _) ?_
  refine xw_aload C dL_look_0 4 rfl ?_
  refine xw_iconst C 0 dL_look_2 (by decide) ?_
  refine xw_aload_n C dL_look_3 rfl 0 rfl ?_
  refine xw_iload_n C dL_look_4 rfl 1 rfl ?_
  refine xw_iload_n C dL_look_5 rfl 2 rfl ?_
  refine xw_iload_n C dL_look_6 rfl 3 rfl ?_
  refine xw_callVI (w' := wc' ++ wO cL ol f) (u := []) (v := wO cL ol f) C hM 3 gL_look_X5_look rfl ⟨rfl, rfl⟩ (by decide +kernel) ⟨Nat.le_of_ble_eq_true rfl, Nat.le_of_ble_eq_true rfl⟩ q0 5 rfl he rfl (Nat.le_of_ble_eq_true rfl) ⟨Nat.le_of_ble_eq_true rfl, Nat.le_of_ble_eq_true rfl⟩ rfl rfl rfl dL_look_7 ?_
  refine xw_i2l C dL_look_10 ?_
  refine xw_last C hKL wc'.length (get_last _ _) (show vp_in (nI 0) 1 from vp_in_nI (by decide) (by decide)) (set_last _ _ _) dL_look_11 ?_
  refine xw_goto C 19 dL_look_12 (by decide) ?_
  refine xw_iconst C 0 dL_look_19 (by decide) ?_
  exact xw_iret C hr dL_look_20
set_option maxHeartbeats 4000000 in
set_option maxRecDepth 100000 in
theorem ok_L_look_X {l : Launch} {E : En} {cL : ClassId} {o ol q0 : Nat} {fs : List Value} {p1 p2 p3 : Int32} {f : Nat → Int64} {wc : va_W} (hM : CT l yX5_look wsX5_look rmX5_X [.ref o, .int p1, .int p2, .int p3] E wc) (he : wc[q0]? = some (o, .inr (5, fs))) : CL l yL_look wsL_look rmL_w [.ref o, .int p1, .int p2, .int p3, .ref ol] E cL (wc ++ wO cL ol f) (wc ++ wO cL ol f) 1 := by
  refine xc_L (by decide) rfl (Nat.le_of_ble_eq_true rfl) [(0, .ref o), (1, .int p1), (2, .int p2), (3, .int p3), (4, .ref ol)] rfl (fun p e s m below meth c A C hr hT hKL htab => ?_)
  generalize ([.ref o, .int p1, .int p2, .int p3, .ref ol] : List Value).toArray = args at C ⊢
  have ml : Cond.classLink RL 13 NSE ∈ wsL_look := by decide +kernel
  refine xw_aload C dL_look_0 4 rfl ?_
  refine xw_iconst C 0 dL_look_2 (by decide) ?_
  refine xw_aload_n C dL_look_3 rfl 0 rfl ?_
  refine xw_iload_n C dL_look_4 rfl 1 rfl ?_
  refine xw_iload_n C dL_look_5 rfl 2 rfl ?_
  refine xw_iload_n C dL_look_6 rfl 3 rfl ?_
  refine xw_callT (u := []) (v := wO cL ol f) C hM 3 gL_look_X5_look rfl ⟨rfl, rfl⟩ (by decide +kernel) ⟨Nat.le_of_ble_eq_true rfl, Nat.le_of_ble_eq_true rfl⟩ q0 5 rfl he rfl (Nat.le_of_ble_eq_true rfl) ⟨Nat.le_of_ble_eq_true rfl, Nat.le_of_ble_eq_true rfl⟩ rfl rfl dL_look_7 hT ⟨0, 12, 15, 13⟩ [] htab (by decide) (by decide) ml (fun q9 => ?_)
  refine xw_astore C dL_look_15 (by decide) (lv' := [(5, .ref q9), (0, .ref o), (1, .int p1), (2, .int p2), (3, .int p3), (4, .ref ol)]) rfl ?_
  refine xw_iconst C 1 dL_look_17 (by decide) ?_
  exact xw_iret C hr dL_look_18
