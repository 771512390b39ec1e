/-- the reference that treeOf(i) answers, of the row g of trees -/
def tref (g : Nat → Option Nat) (i : Int32) : Option Nat := if i < 0 then none else if nI 8 ≤ i then none else g i.toNatClampNeg
def wF (E : En) (o q u : Nat) (ad bd cd : Nat → Nat) (g : Nat → Option Nat) (x y z : Ob) : va_W := w5 E o ad q u x g ++ w1 E q bd y ++ w0 E u cd z
def QQ (E : En) (w' : va_W) (r : Option Nat) (A : Nat → Prop) : Array Value → State → Outcome → State → Prop := va_Qq (fun (q : Option Nat) (_ : Unit) => q = r) (fun _ t => va_P E.1 vwCl w' t.heap ∧ va_D A w') A
def CQ (l : Launch) (y : MethodName) (ws : List Cond) (rm : Room) (av : List Value) (E : En) (w w' : va_W) (r : Option Nat) : Prop := ∀ sz, Met l y ws rm (va_Pc av (xPre E w sz)) (QQ E w' r (va_A w sz)) 0 0 (va_A w sz)
section XF
variable {kc ks : Nat} {E : En} {p : Program} {l : Launch} {e : Env} {R : Room} {s : State} {m : MethodId} {args : Array Value} {below : List Frame} {meth : Method} {c : Code} {Z : State → Prop} {A : Nat → Prop} {w w' u v wc wc' : va_W} {pc nL : Nat} {lv lv' : List (Nat × Value)} {st stk As : List Value} {cc : ByteArray} {ws : List Cond} {own : String}
theorem xw_worldP {w1 w2 V : va_W} (is : List Nat) (hn : va_nd is = true) (h1 : is.filterMap (fun i => w1[i]?) = w2) (h2 : is.map (fun i => w1[i]?) = w2.map some) (k : XW E p l e R s m args below meth c Z A kc ks (w2 ++ V) pc nL lv st) : XW E p l e R s m args below meth c Z A kc ks (w1 ++ V) pc nL lv st := fun H locs ls hP hD hS hl => by
  refine k H locs ls (va_P.app ((xP_l hP).sub is h1) (xP_r hP)) (va_D.app ((xD_l hD).sub is hn h2) (xD_r hD) (fun i j x y hx hy => ?_)) hS hl
  subst h1
  obtain ⟨i2, -, hi⟩ := List.mem_filterMap.mp (List.mem_of_getElem? hx)
  exact xD_x hD i2 j x y hi hy
theorem xw_ifnull_r (C : Cx E p s m args meth c A cc nL ws own) {x : Nat} {off : Int} (d : decode cc pc = .ok (.ifnull off, 3)) (k : XW E p l e R s m args below meth c Z A kc ks w (pc + 3) nL lv st) : XW E p l e R s m args below meth c Z A kc ks w pc nL lv (.ref x :: st) := fun H locs ls hP hD hS hl => lv_ifnull C.1 C.2.1 d (k H locs ls hP hD hS hl)
theorem xw_ifnull_n (C : Cx E p s m args meth c A cc nL ws own) {off : Int} (tgt : Nat) (d : decode cc pc = .ok (.ifnull off, 3)) (ht : (pc : Int) + off = (tgt : Int)) (k : XW E p l e R s m args below meth c Z A kc ks w tgt nL lv st) : XW E p l e R s m args below meth c Z A kc ks w pc nL lv (.null :: st) := fun H locs ls hP hD hS hl => lv_ifnullN C.1 C.2.1 d ht (k H locs ls hP hD hS hl)
theorem xw_ifnonnull_r (C : Cx E p s m args meth c A cc nL ws own) {x : Nat} {off : Int} (tgt : Nat) (d : decode cc pc = .ok (.ifnonnull off, 3)) (ht : (pc : Int) + off = (tgt : Int)) (k : XW E p l e R s m args below meth c Z A kc ks w tgt nL lv st) : XW E p l e R s m args below meth c Z A kc ks w pc nL lv (.ref x :: st) := fun H locs ls hP hD hS hl => lv_ifnonnull C.1 C.2.1 d ht (k H locs ls hP hD hS hl)
theorem xw_ifnonnull_n (C : Cx E p s m args meth c A cc nL ws own) {off : Int} (d : decode cc pc = .ok (.ifnonnull off, 3)) (k : XW E p l e R s m args below meth c Z A kc ks w (pc + 3) nL lv st) : XW E p l e R s m args below meth c Z A kc ks w pc nL lv (.null :: st) := fun H locs ls hP hD hS hl => lv_ifnonnullN C.1 C.2.1 d (k H locs ls hP hD hS hl)
theorem xw_aload_nN (C : Cx E p s m args meth c A cc nL ws own) {k : Fin 4} {i : Nat} (d : decode cc pc = .ok (.aload_n k, 1)) (hi : (k : Nat) = i) (j : Nat) (hj : lv[j]? = some (i, .null)) (kk : XW E p l e R s m args below meth c Z A kc ks w (pc + 1) nL lv (.null :: st)) : XW E p l e R s m args below meth c Z A kc ks w pc nL lv st := fun H locs ls hP hD hS hl => lv_aload_nN C.1 C.2.1 d hi (lv_at hl j hj) (kk H locs ls hP hD hS hl)
theorem xw_aloadN (C : Cx E p s m args meth c A cc nL ws own) {i : Nat} (d : decode cc pc = .ok (.aload i, 2)) (j : Nat) (hj : lv[j]? = some (i, .null)) (kk : XW E p l e R s m args below meth c Z A kc ks w (pc + 2) nL lv (.null :: st)) : XW E p l e R s m args below meth c Z A kc ks w pc nL lv st := fun H locs ls hP hD hS hl => lv_aloadN C.1 C.2.1 d (lv_at hl j hj) (kk H locs ls hP hD hS hl)
theorem xw_astore_nN (C : Cx E p s m args meth c A cc nL ws own) {k : Fin 4} {i : Nat} (d : decode cc pc = .ok (.astore_n k, 1)) (hi : (k : Nat) = i) (hn : i < nL) (h' : (i, Value.null) :: lv.filter (fun q => !(q.1 == i) && !(q.1 + 1 == i && q.2.category == 2)) = lv') (kk : XW E p l e R s m args below meth c Z A kc ks w (pc + 1) nL lv' st) : XW E p l e R s m args below meth c Z A kc ks w pc nL lv (.null :: st) := fun H locs ls hP hD hS hl => lv_astore_nN C.1 C.2.1 d hi hl hn h' (fun ls' h => kk H locs ls' hP hD hS h)
theorem xw_astoreN (C : Cx E p s m args meth c A cc nL ws own) {i : Nat} (d : decode cc pc = .ok (.astore i, 2)) (hn : i < nL) (h' : (i, Value.null) :: lv.filter (fun q => !(q.1 == i) && !(q.1 + 1 == i && q.2.category == 2)) = lv') (kk : XW E p l e R s m args below meth c Z A kc ks w (pc + 2) nL lv' st) : XW E p l e R s m args below meth c Z A kc ks w pc nL lv (.null :: st) := fun H locs ls hP hD hS hl => lv_astoreN C.1 C.2.1 d hl hn h' (fun ls' h => kk H locs ls' hP hD hS h)
theorem xw_acmp_eq_t (C : Cx E p s m args meth c A cc nL ws own) {x y : Nat} {off : Int} (tgt : Nat) (hxy : x = y) (d : decode cc pc = .ok (.if_acmp .eq off, 3)) (ht : (pc : Int) + off = (tgt : Int)) (k : XW E p l e R s m args below meth c Z A kc ks w tgt nL lv st) : XW E p l e R s m args below meth c Z A kc ks w pc nL lv (.ref y :: .ref x :: st) := fun H locs ls hP hD hS hl => lv_acmp_eq (rx := some x) (ry := some y) C.1 C.2.1 d ht (fun _ => k H locs ls hP hD hS hl) (fun q => absurd (congrArg some hxy) q)
theorem xw_acmp_eq_f (C : Cx E p s m args meth c A cc nL ws own) {x y : Nat} {off : Int} (tgt : Nat) (hxy : ¬ x = y) (d : decode cc pc = .ok (.if_acmp .eq off, 3)) (ht : (pc : Int) + off = (tgt : Int)) (k : XW E p l e R s m args below meth c Z A kc ks w (pc + 3) nL lv st) : XW E p l e R s m args below meth c Z A kc ks w pc nL lv (.ref y :: .ref x :: st) := fun H locs ls hP hD hS hl => lv_acmp_eq (rx := some x) (ry := some y) C.1 C.2.1 d ht (fun q => absurd (Option.some.inj q) hxy) (fun _ => k H locs ls hP hD hS hl)
theorem xw_aconst (C : Cx E p s m args meth c A cc nL ws own) (d : decode cc pc = .ok (.aconst_null, 1)) (k : XW E p l e R s m args below meth c Z A kc ks w (pc + 1) nL lv (.null :: st)) : XW E p l e R s m args below meth c Z A kc ks w pc nL lv st := fun H locs ls hP hD hS hl => lv_null C.1 C.2.1 d (k H locs ls hP hD hS hl)
theorem xw_alenq (C : Cx E p s m args meth c A cc nL ws own) {a n : Nat} {f : Nat → Option Nat} (q0 : Nat) (he : w[q0]? = some (a, .inl (E.2.2.2, n, .inr (.inr (.inr (.inr f)))))) (d : decode cc pc = .ok (.arraylength, 1)) (kk : XW E p l e R s m args below meth c Z A kc ks w (pc + 1) nL lv (.int (nI n) :: st)) : XW E p l e R s m args below meth c Z A kc ks w pc nL lv (.ref a :: st) := fun H locs ls hP hD hS hl => va_alen C.1 C.2.1 C.2.2.2.2.2.1 hP q0 2 (x := (n, .inr (.inr (.inr (.inr f))))) he (ty := .object RX4) rfl rfl d (kk H locs ls hP hD hS hl)
theorem xw_aldq (C : Cx E p s m args meth c A cc nL ws own) {a n : Nat} {f : Nat → Option Nat} {i : Int32} (q0 : Nat) (he : w[q0]? = some (a, .inl (E.2.2.2, n, .inr (.inr (.inr (.inr f)))))) (hin : vp_in i n) (d : decode cc pc = .ok (.aaload, 1)) (kk : XW E p l e R s m args below meth c Z A kc ks w (pc + 1) nL lv (va_rf (f i.toNatClampNeg) :: st)) : XW E p l e R s m args below meth c Z A kc ks w pc nL lv (.int i :: .ref a :: st) := fun H locs ls hP hD hS hl => va_aldq C.1 C.2.1 C.2.2.2.2.2.1 hP q0 2 he rfl hin d (kk H locs ls hP hD hS hl)
theorem xw_astq (C : Cx E p s m args meth c A cc nL ws own) {a n b N ci : Nat} {f : Nat → Option Nat} {i : Int32} {T : u_T} {vs : List Value} (q0 qk : Nat) (he : w[q0]? = some (a, .inl (E.2.2.2, n, .inr (.inr (.inr (.inr f)))))) (hv : w[qk]? = some (b, .inr (ci, vs))) (hc : vwCl[ci]? = some (RX4, T, N)) (hin : vp_in i n) (hw : w.set q0 (a, .inl (E.2.2.2, n, .inr (.inr (.inr (.inr (va_up f i.toNatClampNeg (some b))))))) = w') (d : decode cc pc = .ok (.aastore, 1)) (kk : XW E p l e R s m args below meth c Z A kc ks w' (pc + 1) nL lv st) : XW E p l e R s m args below meth c Z A kc ks w pc nL lv (.ref b :: .int i :: .ref a :: st) := by
  subst hw
  exact fun H locs ls hP hD hS hl => va_astq (r := (RX4, T, N)) C.1 C.2.1 C.2.2.2.2.2.1 hP hD hS q0 2 qk ci he rfl hv hc hin d (fun H1 l1 a1 b1 c1 => kk H1 l1 ls a1 b1 c1 hl)
theorem xw_aret {r : Option Nat} {v : Value} (hv : v = va_rf r) (C : Cx E p s m args meth c A cc nL ws own) {rt : FieldType} (hr : meth.sig.returnType = some rt) (hrt : (∃ n, rt = .object n) ∨ ∃ t, rt = .array t) (d : decode cc pc = .ok (.areturn, 1)) : XW E p l e R s m args below meth c (MQ below (QQ E w r A) args s kc ks A) A kc ks w pc nL lv [v] := by
  subst hv
  exact fun H locs ls hP hD hS hl => W.aret (v := va_rf r) C.1 C.2.1 hr hrt (by cases r with | none => exact Or.inl rfl | some a => exact Or.inr ⟨a, rfl⟩) (fun t ht hW => ⟨⟨r, (), rfl, rfl, by rw [ht]; exact hP, hD⟩, hS.F ht⟩) hS.2.2 d (hlocks := C.2.2.2.2.2.2.2.2)
variable {y : MethodName} {ws2 ws2' : List Cond} {bytes : ByteArray} {maxL index : Nat} {ret : Option FieldType} {rm2 : Room} {Cn : String} {T : u_T} {N b : Nat} {fs : List Value} {r : Option Nat}
theorem xw_callVQ (C : Cx E p s m args meth c A cc nL ws own) (hM : CQ l y ws2 rm2 (.ref b :: As) E wc wc' r) (n : Nat) (hG : GoodIn ws (wsV own index Cn y ws2)) (hw2 : ws2 = Cond.code y bytes maxL ret :: ws2') (hz : rm2.cells = 0 ∧ rm2.slots = 0) (hd : y.cls = Cn ∧ y.cls ≠ "java/lang/invoke/MethodHandle" ∧ y.cls ≠ "java/lang/invoke/VarHandle" ∧ (parseMethodDescriptor y.desc).map (fun d => d.parameters.length) = some n) (hR : rm2.frames + 1 ≤ R.frames ∧ 8 + (maxL + 11) + rm2.locals ≤ R.locals) (q0 ci : Nat) (hc : vwCl[ci]? = some (Cn, T, N)) (he : wc[q0]? = some (b, .inr (ci, fs))) (hn : As.length = n) (h8 : (st.map fun v => v.category).sum ≤ 8) (hrm : kc ≤ R.cells ∧ ks ≤ R.slots) (hst : stk = As.reverse ++ .ref b :: st) (hw : w = u ++ wc ++ v) (hw' : u ++ wc' ++ v = w') (d : decode cc pc = .ok (.invokevirtual index, 3)) (q : Value) (hq : va_rf r = q) (kk : XW E p l e R s m args below meth c Z A kc ks w' (pc + 3) nL lv (q :: st)) : XW E p l e R s m args below meth c Z A kc ks w pc nL lv stk := by
  subst hst hw hw' hq
  intro H locs ls hP hD hS hl
  have hPc := xP_r (xP_l hP)
  have hDc := xD_r (xD_l hD)
  have hFc := xfree (wc := wc) C.2.2.2.2.2.2.2.1 hS hDc
  refine va_callq (va_runV (As := As) (rest := st) ⟨C.1, C.2.1, C.2.2.1, C.2.2.2.1, C.2.2.2.2.1⟩ (hM H.size) (cwV n C.2.2.2.2.1 hG hw2 hz.1 hz.2 hd hR) ⟨xPre_blind, va_recv C.2.2.2.2.2.1 hPc hc he, xp C.2.2.2.2.2.1 C.2.2.2.2.2.2.1 hPc hDc⟩ rfl hn hl.1 rfl (lv_room h8) d hrm) hS (fun q _ h => hFc q h) hFc (fun r0 u0 t H1 locs1 ht hvm hp hB hz1 hk1 hS1 => ?_)
  obtain ⟨hP1, hD1⟩ := hB
  rw [ht] at hP1
  obtain ⟨hP2, hD2⟩ := xj hP hD hk1 hFc hP1 hD1
  have hp : r0 = r := hp
  subst hp
  exact kk H1 locs1 ls hP2 hD2 hS1 hl
end XF
abbrev rmX5_treeOf : Room := { frames := 0, cells := 0, slots := 0, locals := 0 }
set_option maxHeartbeats 4000000 in
set_option maxRecDepth 100000 in
theorem ok_X5_treeOf {l : Launch} {E : En} {o q u : Nat} {ad : Nat → Nat} {g : Nat → Option Nat} {x : Ob} {p1 : Int32} : CQ l yX5_treeOf wsX5_treeOf rmX5_treeOf [.ref o, .int p1] E (w5 E o ad q u x g) (w5 E o ad q u x g) (tref g p1) := by
  intro sz
  refine Met.ofW (cc := cX5_treeOf) (maxL := 2) (ret := some (.object "TurningTrees$Tree")) (by decide) rfl ?_
  intro p e s m args below meth c s₁ B hml hv
  obtain ⟨rfl, hsz, hP, hK, hN, hD0⟩ := hv
  subst hsz
  have hD := hD0.self (sz := s.heap.size)
  have hr := B.returns
  have C : Cx E p s m ([.ref o, .int p1] : List Value).toArray meth c (va_A (w5 E o ad q u x g) s.heap.size) cX5_treeOf 2 wsX5_treeOf RX5 := ⟨B.exec, B.bytes, hml, findClass_of_methodNamed B.named, atoms_spec (ws := wsX5_treeOf) B.pre, hK, hN, fun q h => Or.inr h, B.notSynchronized⟩
  have hl := lv_entry [.ref o, .int p1] (n := 2) (Nat.le_of_ble_eq_true rfl)
  rw [lg_entry_eq]
  generalize (lg_sl ([.ref o, .int p1]) ++ List.replicate (2 - (lg_sl ([.ref o, .int p1])).length) Slot.unset).toArray = ls at hl ⊢
  have hl : lv_has ls 2 [(0, .ref o), (1, .int p1)] := hl
  generalize va_A (w5 E o ad q u x g) s.heap.size = A at C hD ⊢
  generalize ([.ref o, .int p1] : List Value).toArray = args at C ⊢
  have in5 : ∀ w ∈ wsX50, w ∈ wsX5_treeOf := by decide +kernel
  have m11 : Cond.fieldLink RX5 11 "TurningTrees" "trees" "[LTurningTrees$Tree;" ∈ wsX5_treeOf := by decide +kernel
  suffices K : XW E p l e rmX5_treeOf s m args below meth c (MQ below (QQ E (w5 E o ad q u x g) (tref g p1) A) args s 0 0 A) A 0 0 (w5 E o ad q u x g) 0 2 [(0, .ref o), (1, .int p1)] [] from K s.heap [] ls hP hD va_S.rf hl
  refine xw_iload_n C dX5_treeOf_0 rfl 1 rfl ?_
  refine xw_if_lt C 22 dX5_treeOf_1 (by decide) (fun c1 => ?_) (fun c1 => ?_)
  · refine xw_aconst C dX5_treeOf_22 ?_
    exact xw_aret (by rw [tref, if_pos c1]; rfl) C hr (Or.inl ⟨_, rfl⟩) dX5_treeOf_23
  · refine xw_iload_n C dX5_treeOf_4 rfl 1 rfl ?_
    refine xw_aload_n C dX5_treeOf_5 rfl 0 rfl ?_
    refine xw_get C in5 0 rfl rfl 0 (by decide) m11 rfl rfl dX5_treeOf_6 ?_
    refine xw_alenq C 1 rfl dX5_treeOf_9 ?_
    refine xw_icmp_ge C 22 dX5_treeOf_10 (by decide) (fun c2 => ?_) (fun c2 => ?_)
    · refine xw_aconst C dX5_treeOf_22 ?_
      exact xw_aret (by rw [tref, if_neg c1, if_pos c2]; rfl) C hr (Or.inl ⟨_, rfl⟩) dX5_treeOf_23
    · have hin : vp_in p1 8 := by
        rcases pk_ix p1 (n := 8) (by decide) with h | h | ⟨j, hj, rfl⟩
        · exact absurd h c1
        · exact absurd h c2
        · exact vp_in_nI hj (by decide)
      refine xw_aload_n C dX5_treeOf_13 rfl 0 rfl ?_
      refine xw_get C in5 0 rfl rfl 0 (by decide) m11 rfl rfl dX5_treeOf_14 ?_
      refine xw_iload_n C dX5_treeOf_17 rfl 1 rfl ?_
      refine xw_aldq C 1 rfl hin dX5_treeOf_18 ?_
      refine xw_goto C 23 dX5_treeOf_19 (by decide) ?_
      exact xw_aret (by rw [tref, if_neg c1, if_neg c2]) C hr (Or.inl ⟨_, rfl⟩) dX5_treeOf_23
