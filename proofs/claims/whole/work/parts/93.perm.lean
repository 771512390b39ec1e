/-! worlds in any order -/
theorem vP_perm {D : va_G} {cl : List vw_C} {w w2 : va_W} {H : Heap} (h : w.Perm w2) (hP : va_P D cl w H) : va_P D cl w2 H := by
  intro k q hk
  have hm : q ∈ w := h.mem_iff.mpr (List.mem_of_getElem? hk)
  obtain ⟨j, hj⟩ := List.mem_iff_getElem?.mp hm
  exact hP j q hj
theorem vD_pw {A : Nat → Prop} {w : va_W} : va_D A w ↔ w.Pairwise (fun a b => a.1 ≠ b.1) ∧ ∀ q ∈ w, A q.1 := by
  constructor
  · intro h
    refine ⟨List.pairwise_iff_getElem.mpr (fun i j hi hj hij e => ?_), fun q hq => ?_⟩
    · have := h.1 i j w[i] w[j] (List.getElem?_eq_getElem hi) (List.getElem?_eq_getElem hj) e
      omega
    · obtain ⟨j, hj⟩ := List.mem_iff_getElem?.mp hq
      exact h.2 j q hj
  · intro h
    refine ⟨fun i j x y hi hj e => ?_, fun k q hk => h.2 q (List.mem_of_getElem? hk)⟩
    obtain ⟨hi1, hi2⟩ := List.getElem?_eq_some_iff.mp hi
    obtain ⟨hj1, hj2⟩ := List.getElem?_eq_some_iff.mp hj
    have pw := List.pairwise_iff_getElem.mp h.1
    rcases Nat.lt_trichotomy i j with q | q | q
    · exact absurd (by rw [hi2, hj2]; exact e) (pw i j hi1 hj1 q)
    · exact q
    · exact absurd (by rw [hi2, hj2]; exact e.symm) (pw j i hj1 hi1 q)
theorem vD_perm {A : Nat → Prop} {w w2 : va_W} (h : w.Perm w2) (hD : va_D A w) : va_D A w2 := by
  obtain ⟨h1, h2⟩ := vD_pw.mp hD
  exact vD_pw.mpr ⟨(h.pairwise_iff (fun {_ _} q => Ne.symm q)).mp h1, fun q hq => h2 q (h.mem_iff.mpr hq)⟩
section PM
variable {kc ks : Nat} {E : En} {p : Program} {l : Launch} {e : Env} {R : Room} {s : State} {m : MethodId} {args : Array Value} {below : List Frame} {meth : Method} {c : Code} {Z : State → Prop} {A : Nat → Prop} {w w2 : va_W} {pc nL : Nat} {lv : List (Nat × Value)} {st : List Value}
theorem xw_pm (h : w.Perm w2) (k : XW E p l e R s m args below meth c Z A kc ks w2 pc nL lv st) : XW E p l e R s m args below meth c Z A kc ks w pc nL lv st := fun H locs ls hP hD hS hl => k H locs ls (vP_perm h hP) (vD_perm h hD) hS hl
end PM
/-! the trees of a law's object -/
abbrev TD : Type := TA × Ob × Ob × Ob
def twd (E : En) (d : TD) : va_W := w4 E d.1.1 d.1.2.1 d.1.2.2.1 d.1.2.2.2.1 d.1.2.2.2.2 d.2.1 d.2.2.1 d.2.2.2
def wTs (E : En) : List TD → va_W
  | [] => []
  | d :: ts => twd E d ++ wTs E ts
theorem wTs_perm {E : En} {a b : List TD} (h : a.Perm b) : (wTs E a).Perm (wTs E b) := by
  induction h with
  | nil => exact List.Perm.refl _
  | cons x _ ih => exact ih.append_left _
  | swap x y l =>
    show (twd E y ++ (twd E x ++ wTs E l)).Perm (twd E x ++ (twd E y ++ wTs E l))
    rw [← List.append_assoc, ← List.append_assoc]
    exact List.perm_append_comm.append_right _
  | trans _ _ h1 h2 => exact h1.trans h2
theorem set_p1 {α : Type} : ∀ (ts : List α) (i : Nat), i < ts.length → ∃ r, ∀ a, (ts.set i a).Perm (a :: r) := by
  intro ts
  induction ts with
  | nil => intro i h; exact absurd h (Nat.not_lt_zero _)
  | cons c l ih =>
    intro i h
    cases i with
    | zero => exact ⟨l, fun a => List.Perm.refl _⟩
    | succ i =>
      obtain ⟨r, hr⟩ := ih i (by simpa using h)
      exact ⟨c :: r, fun a => ((hr a).cons c).trans (List.Perm.swap _ _ _)⟩
theorem set_p2 {α : Type} : ∀ (ts : List α) (i j : Nat), i < ts.length → j < ts.length → i ≠ j → ∃ r, ∀ a b, ((ts.set i a).set j b).Perm (a :: b :: r) := by
  intro ts
  induction ts with
  | nil => intro i j h; exact absurd h (Nat.not_lt_zero _)
  | cons c l ih =>
    intro i j h1 h2 hne
    cases i with
    | zero =>
      cases j with
      | zero => exact absurd rfl hne
      | succ j =>
        obtain ⟨r, hr⟩ := set_p1 l j (by simpa using h2)
        exact ⟨r, fun a b => (hr b).cons a⟩
    | succ i =>
      cases j with
      | zero =>
        obtain ⟨r, hr⟩ := set_p1 l i (by simpa using h1)
        exact ⟨r, fun a b => ((hr a).cons b).trans (List.Perm.swap _ _ _)⟩
      | succ j =>
        obtain ⟨r, hr⟩ := ih i j (by simpa using h1) (by simpa using h2) (by omega)
        exact ⟨c :: r, fun a b => ((hr a b).cons c).trans ((List.Perm.swap _ _ _).trans ((List.Perm.swap _ _ _).cons a))⟩
theorem set_self {α : Type} {ts : List α} {i : Nat} {d : α} (h : ts[i]? = some d) : ts.set i d = ts := by
  obtain ⟨h1, h2⟩ := List.getElem?_eq_some_iff.mp h
  apply List.ext_getElem?
  intro k
  by_cases e : i = k
  · subst e; rw [List.getElem?_set_self h1, h]
  · rw [List.getElem?_set_ne e]
/-- the law's world -/
def LW (E : En) (cL : ClassId) (o q u : Nat) (ad bd cd : Nat → Nat) (om : Nat) (am : Nat → Nat) (ol : Nat) (gg : Nat → Option Nat) (X Y Z : Ob) (ts : List TD) (M : Ob) (fo : Nat → Int64) : va_W := wTs E ts ++ (wF E o q u ad bd cd gg X Y Z ++ (w6 E om am M ++ wO cL ol fo))
theorem pm_a (a f r : va_W) : (a ++ (f ++ r)).Perm (f ++ (a ++ r)) := by
  rw [← List.append_assoc, ← List.append_assoc]
  exact List.perm_append_comm.append_right _
section LR
variable {kc ks : Nat} {E : En} {cL : ClassId} {o q u : Nat} {ad bd cd : Nat → Nat} {om : Nat} {am : Nat → Nat} {ol : Nat} {p : Program} {l : Launch} {e : Env} {s : State} {m : MethodId} {args : Array Value} {below : List Frame} {meth : Method} {c : Code} {Zp : State → Prop} {A : Nat → Prop} {pc nL : Nat} {lv : List (Nat × Value)} {st stk As : List Value} {cc : ByteArray} {ws : List Cond}
variable {gg gg' : Nat → Option Nat} {X Y Z X' Y' Z' M M' : Ob} {ts : List TD} {fo : Nat → Int64} {v : Int32}
variable {y : MethodName} {ws2 ws2' : List Cond} {bytes : ByteArray} {maxL index : Nat} {ret : Option FieldType} {rm2 : Room}
/-- a call of the class that touches no tree -/
theorem xl_face (C : Cx E p s m args meth c A cc nL ws RL) (hM : ∀ W, CI l y ws2 rm2 (.ref o :: As) E (wF E o q u ad bd cd gg X Y Z ++ W) (wF E o q u ad bd cd gg X' Y' Z' ++ W) v) (n : Nat) (hG : GoodIn ws (wsV RL index RX5 y ws2)) (hw2 : ws2 = Cond.code y bytes maxL ret :: ws2') (hz : rm2.cells = 0 ∧ rm2.slots = 0) (hd : y.cls = RX5 ∧ y.cls ≠ "java/lang/invoke/MethodHandle" ∧ y.cls ≠ "java/lang/invoke/VarHandle" ∧ (parseMethodDescriptor y.desc).map (fun d => d.parameters.length) = some n) (hR : rm2.frames + 1 ≤ room_1.frames ∧ 8 + (maxL + 11) + rm2.locals ≤ room_1.locals) (hn : As.length = n) (h8 : (st.map fun v => v.category).sum ≤ 8) (hrm : kc + 9 ≤ room_1.cells ∧ ks + 434 ≤ room_1.slots) (hst : stk = As.reverse ++ .ref o :: st) (d : decode cc pc = .ok (.invokevirtual index, 3))
    (kk : XW E p l e room_1 s m args below meth c Zp A (kc + 9) (ks + 434) (LW E cL o q u ad bd cd om am ol gg X' Y' Z' ts M fo) (pc + 3) nL lv (.int v :: st)) : XW E p l e room_1 s m args below meth c Zp A kc ks (LW E cL o q u ad bd cd om am ol gg X Y Z ts M fo) pc nL lv stk := by
  refine xw_widen (kc + 9) (ks + 434) (by omega) (by omega) ?_
  refine xw_pm (pm_a _ _ _) ?_
  refine xw_callVI (w' := wF E o q u ad bd cd gg X' Y' Z' ++ (wTs E ts ++ (w6 E om am M ++ wO cL ol fo))) (u := []) (v := []) C (hM (wTs E ts ++ (w6 E om am M ++ wO cL ol fo))) n hG hw2 hz hd hR 0 5 rfl rfl hn h8 hrm hst (by rw [List.nil_append, List.append_nil]) (by rw [List.nil_append, List.append_nil]) d ?_
  exact xw_pm (pm_a _ _ _).symm kk
theorem pm_t {i : Nat} (hi : i < ts.length) : ∃ r : List TD, ∀ (a : TD) (F R : va_W), (wTs E (ts.set i a) ++ (F ++ R)).Perm (twd E a ++ F ++ (wTs E r ++ R)) := by
  obtain ⟨r, hr⟩ := set_p1 ts i hi
  refine ⟨r, fun a F R => ?_⟩
  refine ((wTs_perm (E := E) (hr a)).append_right _).trans ?_
  show ((twd E a ++ wTs E r) ++ (F ++ R)).Perm _
  rw [List.append_assoc, List.append_assoc]
  exact (pm_a _ _ _).append_left _
/-- a call of the class on tree i -/
theorem xl_tree {i : Nat} {dd dd' : TD} (hi : ts[i]? = some dd) (C : Cx E p s m args meth c A cc nL ws RL) (hM : ∀ W, CI l y ws2 rm2 (.ref o :: As) E (twd E dd ++ wF E o q u ad bd cd gg X Y Z ++ W) (twd E dd' ++ wF E o q u ad bd cd gg X' Y' Z' ++ W) v) (n : Nat) (hG : GoodIn ws (wsV RL index RX5 y ws2)) (hw2 : ws2 = Cond.code y bytes maxL ret :: ws2') (hz : rm2.cells = 0 ∧ rm2.slots = 0) (hd : y.cls = RX5 ∧ y.cls ≠ "java/lang/invoke/MethodHandle" ∧ y.cls ≠ "java/lang/invoke/VarHandle" ∧ (parseMethodDescriptor y.desc).map (fun d => d.parameters.length) = some n) (hR : rm2.frames + 1 ≤ room_1.frames ∧ 8 + (maxL + 11) + rm2.locals ≤ room_1.locals) (hn : As.length = n) (h8 : (st.map fun v => v.category).sum ≤ 8) (hrm : kc + 9 ≤ room_1.cells ∧ ks + 434 ≤ room_1.slots) (hst : stk = As.reverse ++ .ref o :: st) (d : decode cc pc = .ok (.invokevirtual index, 3))
    (kk : XW E p l e room_1 s m args below meth c Zp A (kc + 9) (ks + 434) (LW E cL o q u ad bd cd om am ol gg X' Y' Z' (ts.set i dd') M fo) (pc + 3) nL lv (.int v :: st)) : XW E p l e room_1 s m args below meth c Zp A kc ks (LW E cL o q u ad bd cd om am ol gg X Y Z ts M fo) pc nL lv stk := by
  obtain ⟨r, hr⟩ := pm_t (E := E) (List.getElem?_eq_some_iff.mp hi).1
  have h0 := hr dd (wF E o q u ad bd cd gg X Y Z) (w6 E om am M ++ wO cL ol fo)
  rw [set_self hi] at h0
  refine xw_widen (kc + 9) (ks + 434) (by omega) (by omega) ?_
  refine xw_pm h0 ?_
  refine xw_callVI (w' := twd E dd' ++ wF E o q u ad bd cd gg X' Y' Z' ++ (wTs E r ++ (w6 E om am M ++ wO cL ol fo))) (u := []) (v := []) C (hM (wTs E r ++ (w6 E om am M ++ wO cL ol fo))) n hG hw2 hz hd hR 9 5 rfl rfl hn h8 hrm hst (by rw [List.nil_append, List.append_nil]) (by rw [List.nil_append, List.append_nil]) d ?_
  exact xw_pm (hr dd' _ _).symm kk
/-- a call of the class on the trees i and j -/
theorem xl_two {i j : Nat} {d1 d2 d1' d2' : TD} (hi : ts[i]? = some d1) (hj : ts[j]? = some d2) (hij : i ≠ j) (C : Cx E p s m args meth c A cc nL ws RL) (hM : ∀ W, CI l y ws2 rm2 (.ref o :: As) E (twd E d1 ++ twd E d2 ++ wF E o q u ad bd cd gg X Y Z ++ W) (twd E d1' ++ twd E d2' ++ wF E o q u ad bd cd gg X' Y' Z' ++ W) v) (n : Nat) (hG : GoodIn ws (wsV RL index RX5 y ws2)) (hw2 : ws2 = Cond.code y bytes maxL ret :: ws2') (hz : rm2.cells = 0 ∧ rm2.slots = 0) (hd : y.cls = RX5 ∧ y.cls ≠ "java/lang/invoke/MethodHandle" ∧ y.cls ≠ "java/lang/invoke/VarHandle" ∧ (parseMethodDescriptor y.desc).map (fun d => d.parameters.length) = some n) (hR : rm2.frames + 1 ≤ room_1.frames ∧ 8 + (maxL + 11) + rm2.locals ≤ room_1.locals) (hn : As.length = n) (h8 : (st.map fun v => v.category).sum ≤ 8) (hrm : kc + 9 ≤ room_1.cells ∧ ks + 434 ≤ room_1.slots) (hst : stk = As.reverse ++ .ref o :: st) (d : decode cc pc = .ok (.invokevirtual index, 3))
    (kk : XW E p l e room_1 s m args below meth c Zp A (kc + 9) (ks + 434) (LW E cL o q u ad bd cd om am ol gg X' Y' Z' ((ts.set i d1').set j d2') M fo) (pc + 3) nL lv (.int v :: st)) : XW E p l e room_1 s m args below meth c Zp A kc ks (LW E cL o q u ad bd cd om am ol gg X Y Z ts M fo) pc nL lv stk := by
  obtain ⟨r, hr⟩ := set_p2 ts i j (List.getElem?_eq_some_iff.mp hi).1 (List.getElem?_eq_some_iff.mp hj).1 hij
  have key : ∀ (a b : TD) (F R : va_W), (wTs E ((ts.set i a).set j b) ++ (F ++ R)).Perm (twd E a ++ twd E b ++ F ++ (wTs E r ++ R)) := by
    intro a b F R
    refine ((wTs_perm (E := E) (hr a b)).append_right _).trans ?_
    show ((twd E a ++ (twd E b ++ wTs E r)) ++ (F ++ R)).Perm _
    simp only [List.append_assoc]
    exact ((pm_a _ _ _).append_left _).append_left _
  have e0 : (ts.set i d1).set j d2 = ts := by rw [set_self hi, set_self hj]
  have h0 := key d1 d2 (wF E o q u ad bd cd gg X Y Z) (w6 E om am M ++ wO cL ol fo)
  rw [e0] at h0
  refine xw_widen (kc + 9) (ks + 434) (by omega) (by omega) ?_
  refine xw_pm h0 ?_
  refine xw_callVI (w' := twd E d1' ++ twd E d2' ++ wF E o q u ad bd cd gg X' Y' Z' ++ (wTs E r ++ (w6 E om am M ++ wO cL ol fo))) (u := []) (v := []) C (hM (wTs E r ++ (w6 E om am M ++ wO cL ol fo))) n hG hw2 hz hd hR 18 5 rfl rfl hn h8 hrm hst (by rw [List.nil_append, List.append_nil]) (by rw [List.nil_append, List.append_nil]) d ?_
  exact xw_pm (key d1' d2' _ _).symm kk
/-- a call of the reference -/
theorem xl_ref (C : Cx E p s m args meth c A cc nL ws RL) (hM : CI l y ws2 rm2 (.ref om :: As) E (w6 E om am M) (w6 E om am M') v) (n : Nat) (hG : GoodIn ws (wsV RL index RX6 y ws2)) (hw2 : ws2 = Cond.code y bytes maxL ret :: ws2') (hz : rm2.cells = 0 ∧ rm2.slots = 0) (hd : y.cls = RX6 ∧ y.cls ≠ "java/lang/invoke/MethodHandle" ∧ y.cls ≠ "java/lang/invoke/VarHandle" ∧ (parseMethodDescriptor y.desc).map (fun d => d.parameters.length) = some n) (hR : rm2.frames + 1 ≤ room_1.frames ∧ 8 + (maxL + 11) + rm2.locals ≤ room_1.locals) (hn : As.length = n) (h8 : (st.map fun v => v.category).sum ≤ 8) (hrm : kc ≤ room_1.cells ∧ ks ≤ room_1.slots) (hst : stk = As.reverse ++ .ref om :: st) (d : decode cc pc = .ok (.invokevirtual index, 3))
    (kk : XW E p l e room_1 s m args below meth c Zp A kc ks (LW E cL o q u ad bd cd om am ol gg X Y Z ts M' fo) (pc + 3) nL lv (.int v :: st)) : XW E p l e room_1 s m args below meth c Zp A kc ks (LW E cL o q u ad bd cd om am ol gg X Y Z ts M fo) pc nL lv stk := by
  refine xw_callVI (w' := LW E cL o q u ad bd cd om am ol gg X Y Z ts M' fo) (u := wTs E ts ++ wF E o q u ad bd cd gg X Y Z) (v := wO cL ol fo) C hM n hG hw2 hz hd hR 0 6 rfl rfl hn h8 hrm hst ?_ ?_ d kk
  · unfold LW; simp only [List.append_assoc]
  · unfold LW; simp only [List.append_assoc]
/-- a call of one of the law's wrappers -/
theorem xl_wrap {hh : List (Nat × Nat × Nat × Nat)} {wc wc' S' : va_W} {fo' : Nat → Int64} (C : Cx E p s m args meth c A cc nL ws RL) (hT : thr A s) (hKL : va_K E.1 vwCl [(cL, .long)] s) (hM : CL l y ws2 rmL_w As E cL (wc ++ wO cL ol fo) (wc' ++ wO cL ol fo') v) (n : Nat) (hG : GoodIn ws (va_wsS RL index y ws2)) (hw2 : ws2 = Cond.codeWith y bytes maxL ret hh :: ws2') (hd : y.cls ≠ "java/lang/invoke/MethodHandle" ∧ y.cls ≠ "java/lang/invoke/VarHandle" ∧ (parseMethodDescriptor y.desc).map (fun d => d.parameters.length) = some n) (hR : rmL_w.frames + 1 ≤ room_1.frames ∧ 8 + (maxL + 11) + rmL_w.locals ≤ room_1.locals) (hn : As.length = n) (h8 : (st.map fun v => v.category).sum ≤ 8) (hrm : kc + 9 ≤ room_1.cells ∧ ks + 434 ≤ room_1.slots) (hst : stk = As.reverse ++ st) (d : decode cc pc = .ok (.invokestatic index, 3))
    (h1 : (LW E cL o q u ad bd cd om am ol gg X Y Z ts M fo).Perm (wc ++ wO cL ol fo)) (h2 : (wc' ++ wO cL ol fo').Perm S')
    (kk : XW E p l e room_1 s m args below meth c Zp A (kc + 9) (ks + 434) S' (pc + 3) nL lv (.int v :: st)) : XW E p l e room_1 s m args below meth c Zp A kc ks (LW E cL o q u ad bd cd om am ol gg X Y Z ts M fo) pc nL lv stk := by
  subst hst
  refine xw_pm h1 ?_
  intro H locs ls hP hD hS hl
  have hFc := xfree (wc := wc ++ wO cL ol fo) C.2.2.2.2.2.2.2.1 hS hD
  refine va_calli (vx_runSW (As := As) (rest := st) ⟨C.1, C.2.1, C.2.2.1, C.2.2.2.1, C.2.2.2.2.1⟩ (hM H.size) (vx_cwSW n C.2.2.2.2.1 hG hw2 rfl rfl hd hR) ⟨xPreL_blind, fun U hU hW => ⟨rfl, ⟨(xp (av := As) C.2.2.2.2.2.1 C.2.2.2.2.2.2.1 hP hD U hU hW).2, thr.go hT hS hU hW hFc⟩, va_K.moved hW.alike hKL⟩⟩ rfl hn hl.1 rfl (lv_room h8) d ⟨by omega, by omega⟩) hS (fun q _ h => hFc q h) hFc (fun r0 u0 t H1 locs1 ht hvm hp hB hz1 hk1 hS1 => ?_)
  obtain ⟨hP1, hD1⟩ := hB
  rw [ht] at hP1
  have hp : r0 = v := hp
  subst hp
  have kk2 := xw_widen (kc := kc + 1) (ks := ks + 6) (kc + 9) (ks + 434) (by omega) (by omega) kk
  exact kk2 H1 locs1 ls (vP_perm h2 hP1) (vD_perm h2 (hD1.weaken (fun _ q _ h => hFc q.1 h))) hS1 hl
end LR
