/-! makers: methods that make cells; what they leave is told by a datum u (the new addresses) -/
def QM {S : Type} (E : En) (w' : S → va_W) (A : Nat → Prop) : Array Value → State → Outcome → State → Prop := va_Qv (fun _ : S => True) (fun u t => va_P E.1 vwCl (w' u) t.heap ∧ va_D A (w' u)) A
def QMI {S : Type} (E : En) (w' : S → va_W) (v : Int32) (A : Nat → Prop) : Array Value → State → Outcome → State → Prop := va_Qi (fun (r : Int32) (_ : S) => r = v) (fun u t => va_P E.1 vwCl (w' u) t.heap ∧ va_D A (w' u)) A
def CM {S : Type} (l : Launch) (y : MethodName) (ws : List Cond) (rm : Room) (av : List Value) (E : En) (w : va_W) (w' : S → va_W) : Prop := ∀ sz, Met l y ws rm (va_Pc av (xPre E w sz)) (QM E w' (va_A w sz)) rm.cells rm.slots (va_A w sz)
def CMI {S : Type} (l : Launch) (y : MethodName) (ws : List Cond) (rm : Room) (av : List Value) (E : En) (w : va_W) (w' : S → va_W) (v : Int32) : Prop := ∀ sz, Met l y ws rm (va_Pc av (xPre E w sz)) (QMI E w' v (va_A w sz)) rm.cells rm.slots (va_A w sz)
def ZM {S : Type} (E : En) (w' : S → va_W) (A : Nat → Prop) (below : List Frame) (args : Array Value) (s : State) (mc ms : Nat) : State → Prop := MQ below (QM E w' A) args s mc ms A
def ZMI {S : Type} (E : En) (w' : S → va_W) (v : Int32) (A : Nat → Prop) (below : List Frame) (args : Array Value) (s : State) (mc ms : Nat) : State → Prop := MQ below (QMI E w' v A) args s mc ms A
section XM
variable {kc ks : Nat} {E : En} {p : Program} {l : Launch} {e : Env} {R : Room} {s : State} {m : MethodId} {args : Array Value} {below : List Frame} {meth : Method} {c : Code} {Z : State → Prop} {A : Nat → Prop} {w w' u v wc : va_W} {pc nL : Nat} {lv lv' : List (Nat × Value)} {st stk As : List Value} {cc : ByteArray} {ws : List Cond} {own : String}
theorem xw_obj (C : Cx E p s m args meth c A cc nL ws own) {idx a : Nat} (h1 : Cond.methodLink own idx Lib.objectInit ∈ ws) (h2 : Cond.instanceMethod Lib.objectInit ∈ ws) (h3 : Cond.code Lib.objectInit ⟨#[0xb1]⟩ 1 none ∈ ws) (hf : 1 ≤ R.frames) (hlo : (st.map fun v => v.category).sum + 12 ≤ R.locals) (d : decode cc pc = .ok (.invokespecial idx, 3)) (k : XW E p l e R s m args below meth c Z A kc ks w (pc + 3) nL lv st) : XW E p l e R s m args below meth c Z A kc ks w pc nL lv (.ref a :: st) := fun H locs ls hP hD hS hl => W.objInit C.1 C.2.1 C.2.2.2.1 (C.2.2.2.2.1 _ h1) (C.2.2.2.2.1 _ h2) (C.2.2.2.2.1 _ h3) rfl (by rw [C.2.2.1]; exact hl.1) rfl d hf (by show 2 * 0 + _ + 12 ≤ _; omega) (k H locs ls hP hD hS hl)
theorem xw_newi (C : Cx E p s m args meth c A cc nL ws own) (hac : Cond.arrayClass .int ∈ ws) {n : Int32} (N : Nat) (hn : ¬ n < 0) (hN : n.toNatClampNeg = N) (hb : N * componentBytes .int ≤ 536870912) (hr : kc + 1 ≤ R.cells ∧ ks + N ≤ R.slots) (d : decode cc pc = .ok (.newarray .int, 2)) (kk : ∀ q : Nat, XW E p l e R s m args below meth c Z A (kc + 1) (ks + N) (w ++ [(q, .inl (E.2.1, N, .inl (fun _ => 0)))]) (pc + 2) nL lv (.ref q :: st)) : XW E p l e R s m args below meth c Z A kc ks w pc nL lv (.int n :: st) := fun H locs ls hP hD hS hl => by
  refine va_newa (atype := .int) (ty := .int) (a0 := (N, .inl (fun _ => 0))) C.1 C.2.1 (C.2.2.2.2.1 _ hac) rfl C.2.2.2.2.2.1 hP hD hS C.2.2.2.2.2.2.2.1 (fun cA => rfl) hn hN hb hr.1 hr.2 d (fun q cA H1 hK1 hP1 hD1 hS1 => ?_)
  have e1 : s.vm.findClass ("[" ++ FieldType.int.toString) = some cA := (hK1.2 3 _ rfl).2
  have e2 : s.vm.findClass ("[" ++ FieldType.int.toString) = some E.2.1 := (C.2.2.2.2.2.1.2 0 _ rfl).2
  have e3 : cA = E.2.1 := Option.some.inj (e1.symm.trans e2)
  subst e3
  exact kk q H1 locs ls hP1 hD1 hS1 hl
theorem xw_newz (C : Cx E p s m args meth c A cc nL ws own) (hac : Cond.arrayClass .boolean ∈ ws) {n : Int32} (N : Nat) (hn : ¬ n < 0) (hN : n.toNatClampNeg = N) (hb : N * componentBytes .boolean ≤ 536870912) (hr : kc + 1 ≤ R.cells ∧ ks + N ≤ R.slots) (d : decode cc pc = .ok (.newarray .boolean, 2)) (kk : ∀ q : Nat, XW E p l e R s m args below meth c Z A (kc + 1) (ks + N) (w ++ [(q, .inl (E.2.2.1, N, .inl (fun _ => 0)))]) (pc + 2) nL lv (.ref q :: st)) : XW E p l e R s m args below meth c Z A kc ks w pc nL lv (.int n :: st) := fun H locs ls hP hD hS hl => by
  refine va_newa (atype := .boolean) (ty := .boolean) (a0 := (N, .inl (fun _ => 0))) C.1 C.2.1 (C.2.2.2.2.1 _ hac) rfl C.2.2.2.2.2.1 hP hD hS C.2.2.2.2.2.2.2.1 (fun cA => rfl) hn hN hb hr.1 hr.2 d (fun q cA H1 hK1 hP1 hD1 hS1 => ?_)
  have e1 : s.vm.findClass ("[" ++ FieldType.boolean.toString) = some cA := (hK1.2 3 _ rfl).2
  have e2 : s.vm.findClass ("[" ++ FieldType.boolean.toString) = some E.2.2.1 := (C.2.2.2.2.2.1.2 1 _ rfl).2
  have e3 : cA = E.2.2.1 := Option.some.inj (e1.symm.trans e2)
  subst e3
  exact kk q H1 locs ls hP1 hD1 hS1 hl
theorem xw_newq (C : Cx E p s m args meth c A cc nL ws own) {index : Nat} (hcl : Cond.classLink own index RX4 ∈ ws) {n : Int32} (N : Nat) (hn : ¬ n < 0) (hN : n.toNatClampNeg = N) (hb : N * 4 ≤ 536870912) (hr : kc + 1 ≤ R.cells ∧ ks + N ≤ R.slots) (d : decode cc pc = .ok (.anewarray index, 3)) (kk : ∀ q : Nat, XW E p l e R s m args below meth c Z A (kc + 1) (ks + N) (w ++ [(q, .inl (E.2.2.2, N, .inr (.inr (.inr (.inr (fun _ => none))))))]) (pc + 3) nL lv (.ref q :: st)) : XW E p l e R s m args below meth c Z A kc ks w pc nL lv (.int n :: st) := fun H locs ls hP hD hS hl => by
  refine va_newq C.1 C.2.1 C.2.2.2.1 (C.2.2.2.2.1 _ hcl) C.2.2.2.2.2.2.1.2 C.2.2.2.2.2.1 hP hD hS C.2.2.2.2.2.2.2.1 hn hN hb hr.1 hr.2 d (fun q cA H1 hK1 hP1 hD1 hS1 => ?_)
  obtain ⟨k1, c1, a1, a2, a3, e1⟩ := (hK1.2 3 _ rfl).2
  obtain ⟨k2, c2, b1, b2, b3, e2⟩ := (C.2.2.2.2.2.1.2 2 _ rfl).2
  have e3 : cA = E.2.2.2 := Option.some.inj (e1.symm.trans e2)
  subst e3
  exact kk q H1 locs ls hP1 hD1 hS1 hl
theorem xw_new (C : Cx E p s m args meth c A cc nL ws own) {Cn : String} {T : u_T} {N ci index : Nat} (hin : ∀ w ∈ u_ws Cn T N, w ∈ ws) (ty : Nat → FieldType) (hty : ∀ k, k < N → parseFieldDescriptor (T k).2.2.1 = some (ty k)) (hcl : Cond.classLink own index Cn ∈ ws) (hinst : Cond.instantiable Cn N ∈ ws) (hini : Cond.initialized Cn ∈ ws) (hc : vwCl[ci]? = some (Cn, T, N)) {fs : List Value} (hfs : ∀ j, j < N → defaultValue (ty j) = vp_V fs j) (hr : kc + 1 ≤ R.cells ∧ ks + N ≤ R.slots) (d : decode cc pc = .ok (.new index, 3)) (kk : ∀ q : Nat, XW E p l e R s m args below meth c Z A (kc + 1) (ks + N) (w ++ [(q, .inr (ci, fs))]) (pc + 3) nL lv (.ref q :: st)) : XW E p l e R s m args below meth c Z A kc ks w pc nL lv st := fun H locs ls hP hD hS hl =>
  va_new C.1 C.2.1 C.2.2.2.2.1 hin ty hty C.2.2.2.1 (C.2.2.2.2.1 _ hcl) (C.2.2.2.2.1 _ hinst) (C.2.2.2.2.1 _ hini) C.2.2.2.2.2.1 hP hD hS C.2.2.2.2.2.2.2.1 hc hfs hr.1 hr.2 d (fun q H1 hP1 hD1 hS1 => kk q H1 locs ls hP1 hD1 hS1 hl)
theorem xw_putF (C : Cx E p s m args meth c A cc nL ws own) {ref Cn : String} {T : u_T} {N ci index a : Nat} {fs : List Value} {x : Value} (hin : ∀ w ∈ u_ws Cn T N, w ∈ ws) (ty0 : Nat → FieldType) (hty : ∀ k, k < N → parseFieldDescriptor (T k).2.2.1 = some (ty0 k)) (hnm : ∀ a, a < N → ∀ b, b < N → a ≠ b → (T a).2.1 ≠ (T b).2.1) (q0 : Nat) (he : w[q0]? = some (a, .inr (ci, fs))) (hc : vwCl[ci]? = some (Cn, T, N)) (k : Nat) (hk : k < N) (hlink : Cond.fieldLink own index ref (T k).2.1 (T k).2.2.1 ∈ ws) (hsame : (T k).1 = ref) (hfin : (T k).2.2.2 = true) (hmn : meth.name = "<init>") (hdecl : (T k).1 = own) (hn : narrow (ty0 k) x = x) (hfit : fits (ty0 k) x = true) (hlen : k < fs.length) (hw : w.set q0 (a, .inr (ci, fs.set k x)) = w') (d : decode cc pc = .ok (.putfield index, 3)) (kk : XW E p l e R s m args below meth c Z A kc ks w' (pc + 3) nL lv st) : XW E p l e R s m args below meth c Z A kc ks w pc nL lv (x :: .ref a :: st) := by
  subst hsame
  subst hw
  exact fun H locs ls hP hD hS hl => va_putF (D := E.1) (ty := ty0 k) C.1 C.2.1 C.2.2.2.2.1 hin ty0 hty hnm C.2.2.2.1 C.2.2.2.2.2.1 hP hD hS q0 he hc k hk (C.2.2.2.2.1 _ hlink) (fun _ h9 => h9) hfin hmn hdecl (hty k hk) hn hfit hlen d (fun H1 l1 a1 b1 c1 => kk H1 l1 ls a1 b1 c1 hl)
theorem xw_callM {S : Type} {wc' : S → va_W} {y : MethodName} {ws2 ws2' : List Cond} {bytes : ByteArray} {maxL index b : Nat} {rm2 : Room} (C : Cx E p s m args meth c A cc nL ws own) (hM : CM l y ws2 rm2 (.ref b :: As) E wc wc') (n : Nat) (hG : GoodIn ws ws2) (hw2 : ws2 = Cond.code y bytes maxL none :: ws2') (hini : Cond.initialized y.cls ∈ ws) (hli : Cond.methodLink own index y ∈ ws) (hinst : Cond.instanceMethod y ∈ ws) (hy1 : y.name = "<init>") (hd : y.cls ≠ "java/lang/invoke/MethodHandle" ∧ y.cls ≠ "java/lang/invoke/VarHandle" ∧ (parseMethodDescriptor y.desc).map (fun d => d.parameters.length) = some n) (hR : rm2.frames + 1 ≤ R.frames ∧ 8 + (maxL + 11) + rm2.locals ≤ R.locals) (hn : As.length = n) (h8 : (st.map fun v => v.category).sum ≤ 8) (hrm : kc + rm2.cells ≤ R.cells ∧ ks + rm2.slots ≤ R.slots) (hst : stk = As.reverse ++ .ref b :: st) (hw : w = u ++ wc ++ v) (d : decode cc pc = .ok (.invokespecial index, 3)) (kk : ∀ q : S, XW E p l e R s m args below meth c Z A (kc + rm2.cells) (ks + rm2.slots) (u ++ wc' q ++ v) (pc + 3) nL lv st) : XW E p l e R s m args below meth c Z A kc ks w pc nL lv stk := by
  subst hst hw
  intro H locs ls hP hD hS hl
  have hPc := xP_r (xP_l hP)
  have hDc := xD_r (xD_l hD)
  have hFc := xfree (wc := wc) C.2.2.2.2.2.2.2.1 hS hDc
  refine va_callv (va_runI (As := As) (rest := st) ⟨C.1, C.2.1, C.2.2.1, C.2.2.2.1, C.2.2.2.2.1⟩ (hM H.size) (cwI n C.2.2.2.2.1 hG hw2 rfl rfl (C.2.2.2.2.1 _ hini) (C.2.2.2.2.1 _ hli) (C.2.2.2.2.1 _ hinst) hy1 hd hR) ⟨xPre_blind, xp C.2.2.2.2.2.1 C.2.2.2.2.2.2.1 hPc hDc⟩ rfl hn hl.1 rfl (lv_room h8) d hrm) hS (fun q _ h => hFc q h) hFc (fun u0 t H1 locs1 ht hvm hp hB hz1 hk1 hS1 => ?_)
  obtain ⟨hP1, hD1⟩ := hB
  rw [ht] at hP1
  obtain ⟨hP2, hD2⟩ := xj hP hD hk1 hFc hP1 hD1
  exact kk u0 H1 locs1 ls hP2 hD2 hS1 hl
theorem xw_callVM {S : Type} {wc' : S → va_W} {y : MethodName} {ws2 ws2' : List Cond} {bytes : ByteArray} {maxL index b N : Nat} {ret : Option FieldType} {rm2 : Room} {Cn : String} {T : u_T} {fs : List Value} {r : Int32} (C : Cx E p s m args meth c A cc nL ws own) (hM : CMI l y ws2 rm2 (.ref b :: As) E wc wc' r) (n : Nat) (hG : GoodIn ws (wsV own index Cn y ws2)) (hw2 : ws2 = Cond.code y bytes maxL ret :: ws2') (hd : y.cls = Cn ∧ y.cls ≠ "java/lang/invoke/MethodHandle" ∧ y.cls ≠ "java/lang/invoke/VarHandle" ∧ (parseMethodDescriptor y.desc).map (fun d => d.parameters.length) = some n) (hR : rm2.frames + 1 ≤ R.frames ∧ 8 + (maxL + 11) + rm2.locals ≤ R.locals) (q0 ci : Nat) (hc : vwCl[ci]? = some (Cn, T, N)) (he : wc[q0]? = some (b, .inr (ci, fs))) (hn : As.length = n) (h8 : (st.map fun v => v.category).sum ≤ 8) (hrm : kc + rm2.cells ≤ R.cells ∧ ks + rm2.slots ≤ R.slots) (hst : stk = As.reverse ++ .ref b :: st) (hw : w = u ++ wc ++ v) (d : decode cc pc = .ok (.invokevirtual index, 3)) (kk : ∀ q : S, XW E p l e R s m args below meth c Z A (kc + rm2.cells) (ks + rm2.slots) (u ++ wc' q ++ v) (pc + 3) nL lv (.int r :: st)) : XW E p l e R s m args below meth c Z A kc ks w pc nL lv stk := by
  subst hst hw
  intro H locs ls hP hD hS hl
  have hPc := xP_r (xP_l hP)
  have hDc := xD_r (xD_l hD)
  have hFc := xfree (wc := wc) C.2.2.2.2.2.2.2.1 hS hDc
  refine va_calli (va_runV (As := As) (rest := st) ⟨C.1, C.2.1, C.2.2.1, C.2.2.2.1, C.2.2.2.2.1⟩ (hM H.size) (cwV n C.2.2.2.2.1 hG hw2 rfl rfl hd hR) ⟨xPre_blind, va_recv C.2.2.2.2.2.1 hPc hc he, xp C.2.2.2.2.2.1 C.2.2.2.2.2.2.1 hPc hDc⟩ rfl hn hl.1 rfl (lv_room h8) d hrm) hS (fun q _ h => hFc q h) hFc (fun r0 u0 t H1 locs1 ht hvm hp hB hz1 hk1 hS1 => ?_)
  obtain ⟨hP1, hD1⟩ := hB
  rw [ht] at hP1
  obtain ⟨hP2, hD2⟩ := xj hP hD hk1 hFc hP1 hD1
  have hp : r0 = r := hp
  subst hp
  exact kk u0 H1 locs1 ls hP2 hD2 hS1 hl
theorem xw_widen (c2 s2 : Nat) (h1 : kc ≤ c2) (h2 : ks ≤ s2) (k : XW E p l e R s m args below meth c Z A c2 s2 w pc nL lv st) : XW E p l e R s m args below meth c Z A kc ks w pc nL lv st := fun H locs ls hP hD hS hl => W.widen h1 h2 (k H locs ls hP hD hS hl)
theorem xw_vretM {S : Type} {w' : S → va_W} (q : S) (C : Cx E p s m args meth c A cc nL ws own) (hr : meth.sig.returnType = none) (hw : w = w' q) (d : decode cc pc = .ok (.return_, 1)) : XW E p l e R s m args below meth c (ZM E w' A below args s kc ks) A kc ks w pc nL lv [] := by
  subst hw
  exact fun H locs ls hP hD hS hl => W.vret C.1 C.2.1 hr (fun t ht hW => ⟨⟨q, rfl, trivial, by rw [ht]; exact hP, hD⟩, hS.F ht⟩) hS.2.2 d (hlocks := C.2.2.2.2.2.2.2.2)
theorem xw_iretM {S : Type} {w' : S → va_W} {v : Int32} (q : S) (C : Cx E p s m args meth c A cc nL ws own) (hr : meth.sig.returnType = some .int) (hw : w = w' q) (d : decode cc pc = .ok (.ireturn, 1)) : XW E p l e R s m args below meth c (ZMI E w' v A below args s kc ks) A kc ks w pc nL lv [.int v] := by
  subst hw
  exact fun H locs ls hP hD hS hl => W.iret (v := v) C.1 C.2.1 hr (fun t ht hW => ⟨⟨v, q, rfl, rfl, by rw [ht]; exact hP, hD⟩, hS.F ht⟩) hS.2.2 d (hlocks := C.2.2.2.2.2.2.2.2)
end XM
theorem xc_M {S : Type} {l : Launch} {y : MethodName} {ws ws' : List Cond} {cc : ByteArray} {maxL : Nat} {ret : Option FieldType} {rm : Room} {av : List Value} {E : En} {w : va_W} {w' : S → va_W} (hy : plainName y.cls = true) (hw : ws = Cond.code y cc maxL ret :: ws') (hlen : (lg_sl av).length ≤ maxL) (lv0 : List (Nat × Value)) (hl0 : lv_args 0 av = lv0) (body : ∀ (p : Program) (e : Env) (s : State) (m : MethodId) (below : List Frame) (meth : Method) (c : Code) (A : Nat → Prop), Cx E p s m av.toArray meth c A cc maxL ws y.cls → meth.sig.returnType = ret → meth.name = y.name → XW E p l e rm s m av.toArray below meth c (ZM E w' A below av.toArray s rm.cells rm.slots) A 0 0 w 0 maxL lv0 []) : CM l y ws rm av E w w' := by
  intro sz
  refine Met.ofW (cc := cc) (maxL := maxL) (ret := ret) hy hw ?_
  intro p e s m args below meth c s₁ B hml hv
  obtain ⟨rfl, hsz, hP, hK, hN, hD0⟩ := hv
  subst hsz
  have hD := hD0.self (sz := s.heap.size)
  have C : Cx E p s m av.toArray meth c (va_A w s.heap.size) cc maxL ws y.cls := ⟨B.exec, B.bytes, hml, findClass_of_methodNamed B.named, atoms_spec (ws := ws) B.pre, hK, hN, fun q h => Or.inr h, B.notSynchronized⟩
  have hl := lv_entry av (n := maxL) hlen
  rw [lg_entry_eq]
  rw [hl0] at hl
  exact body p e s m below meth c _ C B.returns (name_of_methodNamed B.named B.method).1 s.heap [] _ hP hD va_S.rf hl
theorem xc_MI {S : Type} {l : Launch} {y : MethodName} {ws ws' : List Cond} {cc : ByteArray} {maxL : Nat} {ret : Option FieldType} {rm : Room} {av : List Value} {E : En} {w : va_W} {w' : S → va_W} {v : Int32} (hy : plainName y.cls = true) (hw : ws = Cond.code y cc maxL ret :: ws') (hlen : (lg_sl av).length ≤ maxL) (lv0 : List (Nat × Value)) (hl0 : lv_args 0 av = lv0) (body : ∀ (p : Program) (e : Env) (s : State) (m : MethodId) (below : List Frame) (meth : Method) (c : Code) (A : Nat → Prop), Cx E p s m av.toArray meth c A cc maxL ws y.cls → meth.sig.returnType = ret → XW E p l e rm s m av.toArray below meth c (ZMI E w' v A below av.toArray s rm.cells rm.slots) A 0 0 w 0 maxL lv0 []) : CMI l y ws rm av E w w' v := by
  intro sz
  refine Met.ofW (cc := cc) (maxL := maxL) (ret := ret) hy hw ?_
  intro p e s m args below meth c s₁ B hml hv
  obtain ⟨rfl, hsz, hP, hK, hN, hD0⟩ := hv
  subst hsz
  have hD := hD0.self (sz := s.heap.size)
  have C : Cx E p s m av.toArray meth c (va_A w s.heap.size) cc maxL ws y.cls := ⟨B.exec, B.bytes, hml, findClass_of_methodNamed B.named, atoms_spec (ws := ws) B.pre, hK, hN, fun q h => Or.inr h, B.notSynchronized⟩
  have hl := lv_entry av (n := maxL) hlen
  rw [lg_entry_eq]
  rw [hl0] at hl
  exact body p e s m below meth c _ C B.returns s.heap [] _ hP hD va_S.rf hl
