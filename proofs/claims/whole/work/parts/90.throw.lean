/-! THROWS: ask, remove, look refuse by an exception of one class -/
abbrev NSE : String := "java/util/NoSuchElementException"
abbrev NSN : List String := ["java/lang/RuntimeException", "java/lang/Exception"]
/-- the words of a throw that aren't among the method's own -/
def thrW : List Cond := [.castable NSE NSE, .declares (Bundle.initS "java/lang/RuntimeException"), .declares (Bundle.initS "java/lang/Exception"), .declares (Bundle.initS Bundle.tN)]
/-- what a throw needs of the state -/
def thr (A : Nat → Prop) (U : State) : Prop := (∃ a, vk_R RX5 69 "no such tree or key" a U) ∧ (∃ a, vk_R RX5 108 "no such tree, or the key is not in it" a U) ∧ (∃ a, vk_R RX5 125 "nothing such to look at" a U) ∧ vx_Zq Bundle.tN "UNASSIGNED_STACK" Bundle.steD A U U.heap ∧ vx_Zq Bundle.tN "SUPPRESSED_SENTINEL" Bundle.listD A U U.heap ∧ ∀ w ∈ thrW, va_Nw w U
theorem thr.same {A : Nat → Prop} {u U : State} (hv : U.vm = u.vm) (hh : U.heap = u.heap) (h : thr A u) : thr A U := by
  obtain ⟨⟨a1, h1⟩, ⟨a2, h2⟩, ⟨a3, h3⟩, h4, h5, h6⟩ := h
  have al : u.vm.Alike U.vm := hv ▸ Vm.Alike.refl u.vm
  refine ⟨⟨a1, h1.same hv⟩, ⟨a2, h2.same hv⟩, ⟨a3, h3.same hv⟩, ?_, ?_, fun w hw => ?_⟩
  · rw [hh]; exact vx_Zq.moved al h4
  · rw [hh]; exact vx_Zq.moved al h5
  · have ht : w.onTables = true := by
      simp only [thrW, List.mem_cons, List.not_mem_nil, or_false] at hw
      rcases hw with rfl | rfl | rfl | rfl <;> rfl
    exact va_Nw.same ht hv.symm (h6 w hw)
theorem thr.go {A A' : Nat → Prop} {s U : State} {H : Heap} {locs : List Loc} (h : thr A s) (hS : va_S A s.heap H locs) (hU : U.heap = H) (hW : s.WarmedH U.vm) (hAA : ∀ q, A' q → A q) : thr A' U := by
  obtain ⟨⟨a1, h1⟩, ⟨a2, h2⟩, ⟨a3, h3⟩, h4, h5, h6⟩ := h
  refine ⟨⟨a1, h1.warm hW⟩, ⟨a2, h2.warm hW⟩, ⟨a3, h3.warm hW⟩, ?_, ?_, fun w hw => ?_⟩
  · rw [hU]; exact ((h4.kept (H1 := H) (fun a ha hn => hS.2.1 a ha hn)).moved hW.alike).narrow hAA
  · rw [hU]; exact ((h5.kept (H1 := H) (fun a ha hn => hS.2.1 a ha hn)).moved hW.alike).narrow hAA
  · have h7 := h6 w hw
    simp only [thrW, List.mem_cons, List.not_mem_nil, or_false] at hw
    rcases hw with rfl | rfl | rfl | rfl
    · exact va_Nw.warmC hW h7
    · exact va_Nw.warmD hW h7
    · exact va_Nw.warmD hW h7
    · exact va_Nw.warmD hW h7
def xPreT (E : En) (w : va_W) (sz : Nat) (U : State) : Prop := xPre E w sz U ∧ thr (va_A w sz) U
theorem xPreT_blind {E : En} {w : va_W} {sz : Nat} {av : List Value} : FrameBlind (va_Pc av (xPreT E w sz)) := fun a U g mk q => by
  have h1 := xPre_blind (E := E) (w := w) (sz := sz) (av := av) a U g mk ⟨q.1, q.2.1⟩
  exact ⟨h1.1, h1.2, thr.same (u := U) rfl rfl q.2.2⟩
def XT (E : En) (w : va_W) (A : Nat → Prop) : String → State → State → Prop := vx_X (fun _ : Unit => True) (fun n _ t => n = NSE ∧ va_P E.1 vwCl w t.heap ∧ va_D A w) A
def QF (A : Nat → Prop) : Array Value → State → Outcome → State → Prop := va_Qi (fun (_ : Int32) (_ : Unit) => False) (fun _ _ => True) A
/-- CONTRACT of a call that throws; the world stays -/
def CT (l : Launch) (y : MethodName) (ws : List Cond) (rm : Room) (av : List Value) (E : En) (w : va_W) : Prop := ∀ sz, vx_Met l y ws rm (va_Pc av (xPreT E w sz)) (QF (va_A w sz)) (XT E w (va_A w sz)) 1 6 (va_A w sz)
theorem xc_T {l : Launch} {y : MethodName} {ws ws' : List Cond} {cc : ByteArray} {maxL : Nat} {ret : Option FieldType} {rm : Room} {av : List Value} {E : En} {w : va_W} (hy : plainName y.cls = true) (hw : ws = Cond.code y cc maxL ret :: ws') (hlen : (lg_sl av).length ≤ maxL) (lv0 : List (Nat × Value)) (hl0 : lv_args 0 av = lv0) (body : ∀ (p : Program) (e : Env) (s : State) (m : MethodId) (below : List Frame) (meth : Method) (c : Code) (A : Nat → Prop), Cx E p s m av.toArray meth c A cc maxL ws y.cls → (∀ x ∈ c.exceptionTable.toList, False) → thr A s → XW E p l e rm s m av.toArray below meth c (vx_MQ below (QF A) (XT E w A) av.toArray s 1 6 A) A 0 0 w 0 maxL lv0 []) : CT l y ws rm av E w := by
  intro sz
  refine vx_ofW (cc := cc) (maxL := maxL) (ret := ret) hy hw ?_
  intro p e s m args below meth c s₁ B hml hex hv
  obtain ⟨rfl, ⟨hsz, hP, hK, hN, hD0⟩, hT⟩ := hv
  subst hsz
  have hD := hD0.self (sz := s.heap.size)
  have C : Cx E p s m av.toArray meth c (va_A w s.heap.size) cc maxL ws y.cls := ⟨B.exec, B.bytes, hml, findClass_of_methodNamed B.named, atoms_spec (ws := ws) B.pre, hK, hN, fun q h => Or.inr h, B.notSynchronized⟩
  have hl := lv_entry av (n := maxL) hlen
  rw [lg_entry_eq]
  rw [hl0] at hl
  exact body p e s m below meth c _ C hex hT s.heap [] _ hP hD va_S.rf hl
section TR0
variable {E : En} {p : Program} {l : Launch} {e : Env} {R : Room} {s : State} {m : MethodId} {args : Array Value} {below : List Frame} {meth : Method} {c : Code} {A : Nat → Prop} {w : va_W} {pc nL : Nat} {lv : List (Nat × Value)} {st : List Value} {cc : ByteArray} {ws : List Cond}
/-- new, dup, ldc, invokespecial, athrow -/
theorem xw_throw (C : Cx E p s m args meth c A cc nL ws RX5) (hl : l.stackTraces = false) (hT : thr A s) (hex : ∀ x ∈ c.exceptionTable.toList, False) {is sa : Nat} {text : String} (hstr : vk_R RX5 is text sa s) (hk : Cond.classLink RX5 67 NSE ∈ ws) (hini : Cond.initialized NSE ∈ ws) (hat : ∀ w ∈ at13.filter goodWord, w ∈ ws)
    (d0 : decode cc pc = .ok (.new 67, 3)) (d3 : decode cc (pc + 3) = .ok (.dup, 1)) (d4 : decode cc (pc + 4) = .ok (.ldc is, 2)) (d6 : decode cc (pc + 6) = .ok (.invokespecial 71, 3)) (d9 : decode cc (pc + 9) = .ok (.athrow, 1))
    (hR : 5 < R.frames ∧ (st.map fun v => v.category).sum + 82 ≤ R.locals ∧ 1 ≤ R.cells ∧ 6 ≤ R.slots) : XW E p l e R s m args below meth c (vx_MQ below (QF A) (XT E w A) args s 1 6 A) A 0 0 w pc nL lv st := by
  intro H locs ls hP hD hS hl'
  have hat' : ∀ w ∈ at13, w.before args s = true := by
    refine vx_hat (B := thrW) (fun w h => C.2.2.2.2.1 w (hat w h)) (by decide +kernel) (fun w h => ?_)
    have ht : w.onTables = true := by
      have h' := h
      simp only [thrW, List.mem_cons, List.not_mem_nil, or_false] at h'
      rcases h' with rfl | rfl | rfl | rfl <;> rfl
    exact va_Nw.use ht (hT.2.2.2.2.2 w h)
  refine throw13 C.1 C.2.1 hl (text := text) (is := is) (A := A) C.2.2.2.1 (C.2.2.2.2.1 _ hk) (C.2.2.2.2.1 _ hini) hstr hat' hT.2.2.2.1 hT.2.2.2.2.1 hS (by rw [C.2.2.1]; exact hl'.1) d0 d3 d4 d6 d9 (fun x h => (hex x h).elim) hR.1 hR.2.1 (by have := hR.2.2.1; omega) (by have := hR.2.2.2; omega) C.2.2.2.2.2.2.2.2 (fun t hal hz hq => ?_) hS.2.2 (Nat.le_refl _) (Nat.le_refl _)
  refine ⟨(), trivial, ⟨rfl, fun k q hk' => (hP k q hk').kept (hq q.1 (hP k q hk').lt), hD⟩, Nat.le_trans hS.1 hz, fun q h1 h2 => ?_⟩
  rw [hq q (Nat.lt_of_lt_of_le h1 hS.1)]; exact hS.2.1 q h1 h2
end TR0
/-! own proof: an exception is caught by the first row of this method's table, a class that it names -/
section CTX
variable {p : Program} {l : Launch} {e : Env} {R : Room} {s : State} {m : MethodId} {args : Array Value} {below : List Frame} {meth : Method} {c : Code} {H : Heap} {locs : List Loc} {cells slots : Nat} {Q : State → Prop} {pc : Nat} {ls : Array Slot} {rest : List Value}
theorem ct_go {S : State} {f : JFrame} {a : Addr} {x : ExceptionTableEntry} {tl : List ExceptionTableEntry} {k : ClassId} {ce : Cell} (hx : covers x f.pc = true) (h0 : x.catchType ≠ 0) (hl : S.vm.ClassLinks e.platform f.method.cls x.catchType k) (hce : S.heap[a]? = some ce) (hv : ∀ j, ce.vm ≠ .statics j) (hk1 : ∃ z, S.vm.classes[ce.cls]? = some z) (hk2 : ∃ z, S.vm.classes[k]? = some z) (hfit : S.vm.assignable ce.cls k = true) (P : Handler → Pre) (P2 : CtlPost) (d : Bool) (acts : List Action) :
    wp (findHandler.go f a (x :: tl)) P P2 e d acts S ↔ P (.found x.handlerPc) d acts (S.setVm (S.vm.noted f.method.cls x.catchType (.cls k))) := by
  have hal : S.vm.Alike (S.vm.noted f.method.cls x.catchType (.cls k)) := (Vm.Alike.refl S.vm).noted _ _ _
  have hfit2 : (S.vm.noted f.method.cls x.catchType (.cls k)).assignable ce.cls k = true := by rw [hal.assignable]; exact hfit
  obtain ⟨z1, e1⟩ := hk1
  obtain ⟨z2, e2⟩ := hk2
  obtain ⟨z1', e1', -⟩ := hal.2.2 _ _ e1
  obtain ⟨z2', e2', -⟩ := hal.2.2 _ _ e2
  obtain ⟨r1, r2⟩ := (resolveClass_links e.toSetting hl).op (op := VmOp.resolveClass f.method.cls x.catchType) rfl
  unfold covers at hx
  simp [findHandler.go, hx, h0, r1, r2, hce, hv, e1', e2', hfit2, VmOp.dirties, VmOp.acts]
theorem ct_catch {own name E : String} {ce : Cell} {q : Addr} (hown : s.vm.findClass own = some m.cls) (x : ExceptionTableEntry) (suf : List ExceptionTableEntry) (htab : c.exceptionTable.toList = x :: suf) (hx : covers x pc = true) (h0 : x.catchType ≠ 0)
    (hlink : (Cond.classLink own x.catchType name).before args s = true) (hcast : (Cond.castable E name).before args s = true) (hcell : H[q]? = some ce) (hv : ce.vm = .none) (hcl : s.vm.findClass E = some ce.cls)
    (kk : W p l e R s m args below meth c H locs cells slots Q (F0 m x.handlerPc ls [.ref q])) : vx_W p l e R s m args below meth c H locs cells slots Q (F0 m pc ls rest) q := by
  intro T hT X
  have hpl : e.platform.magicAccessors = ({} : Platform).magicAccessors := by rw [X.admits.platform]
  obtain ⟨k1, k2, g1, g2, hasg⟩ := Cond.castable_spec hcast
  cases Option.some.inj (g1.symm.trans hcl)
  obtain ⟨k3, g3, hL⟩ := Cond.classLink_spec hown hlink e.platform hpl
  cases Option.some.inj (g2.symm.trans g3)
  obtain ⟨z0, hz0, -⟩ := Vm.findClass_spec hcl
  obtain ⟨dk, _, _, kt, hd, _, _, _, _, hkt, _, hopen⟩ := hL.here
  obtain ⟨z1, hz1, -⟩ := X.warmed.alike.2.2 _ _ hz0
  obtain ⟨z2, hz2, -⟩ := X.warmed.alike.2.2 _ _ hkt
  have hcell' : T.heap[q]? = some ce := by rw [hT]; exact hcell
  have X' := X.noted (X.warmed.noted hd hopen (State.rightAt_cls hL))
  obtain ⟨t, a1, b1⟩ := kk (T.setVm (T.vm.noted m.cls x.catchType (.cls k2))) hT X'
  refine ⟨t, ?_, b1⟩
  have hAt : At T (F0 m pc ls rest).method c below := X.here
  obtain ⟨hgo, hw⟩ := hAt.throwing q
  refine Steps.head hgo hw ?_
  have hmm : ((T.setTop (F0 m pc ls rest)).pushFrame (.throwing q)).vm.method? (F0 m pc ls rest).method = some meth := X.method'
  have fnd : ∀ (P : Handler → Pre) (P2 : CtlPost) (d : Bool) (acts : List Action), wp (findHandler (F0 m pc ls rest) q) P P2 e d acts ((T.setTop (F0 m pc ls rest)).pushFrame (.throwing q)) ↔ P (.found x.handlerPc) d acts (((T.setTop (F0 m pc ls rest)).pushFrame (.throwing q)).setVm (T.vm.noted m.cls x.catchType (.cls k2))) := by
    intro P P2 d acts
    rw [W.findHandler_eq hmm X.code, htab]
    exact ct_go (S := (T.setTop (F0 m pc ls rest)).pushFrame (.throwing q)) (f := F0 m pc ls rest) hx h0 (X.warmed.classLinks hL) hcell' (fun j => by rw [hv]; exact fun z => by cases z) ⟨z1, hz1⟩ ⟨z2, hz2⟩ (by show T.vm.assignable _ _ = true; rw [X.warmed.alike.assignable]; exact hasg) P P2 d acts
  have stp : ∀ r : List Frame, (stepThrowing e ((T.setTop (F0 m pc ls rest)).pushFrame (.throwing q)) q (.java (F0 m pc ls rest) :: r)).Is ((((T.setTop (F0 m pc ls rest)).pushFrame (.throwing q)).setVm (T.vm.noted m.cls x.catchType (.cls k2))).setFrames (.java { F0 m pc ls rest with pc := x.handlerPc, stack := [.ref q] } :: r)) [] := by
    intro r
    simp only [stepThrowing, searchFrame, vmDo]
    generalize hr : Sem.go _ e false [] _ = res
    obtain ⟨as, rfl, ha⟩ := Sem.eq_ok_of hr (a := Handler.found x.handlerPc) (s' := ((T.setTop (F0 m pc ls rest)).pushFrame (.throwing q)).setVm (T.vm.noted m.cls x.catchType (.cls k2))) (acts' := []) (by simp [fnd])
    exact ⟨rfl, ha⟩
  obtain ⟨g₀, hg⟩ := Option.isSome_iff_exists.mp hAt.top
  obtain ⟨r, hr⟩ := State.topJava?_eq_some.mp hg
  rw [stepThread_throwing (frames_entered hAt.top _), (stp _).1, hr]
  have hr2 : (T.setVm (T.vm.noted m.cls x.catchType (.cls k2))).frames = .java g₀ :: r := hr
  have a2 : Steps p.tables e below ((T.setVm (T.vm.noted m.cls x.catchType (.cls k2))).setTop { F0 m pc ls rest with pc := x.handlerPc, stack := [.ref q] }) t := a1
  rw [State.setTop_of_frames _ hr2] at a2
  have fin : ((((T.setTop (F0 m pc ls rest)).pushFrame (.throwing q)).setVm (T.vm.noted m.cls x.catchType (.cls k2))).setFrames (.java { F0 m pc ls rest with pc := x.handlerPc, stack := [.ref q] } :: r)) = (T.setVm (T.vm.noted m.cls x.catchType (.cls k2))).setFrames (.java { F0 m pc ls rest with pc := x.handlerPc, stack := [.ref q] } :: r) := by
    show State.setVm (State.setFrames ((T.setTop (F0 m pc ls rest)).pushFrame (.throwing q)) _) _ = State.setVm (State.setFrames T _) _
    rw [State.pushFrame, State.setFrames_setFrames, State.setTop_of_frames _ hr, State.setFrames_setFrames]
    rfl
  exact fin ▸ a2
end CTX
