section LX
variable {kc ks : Nat} {E : En} {cL : ClassId} {o q u : Nat} {ad bd cd : Nat → Nat} {om : Nat} {am : Nat → Nat} {ol : Nat} {p : Program} {l : Launch} {e : Env} {s : State} {m : MethodId} {args : Array Value} {below : List Frame} {meth : Method} {c : Code} {Zp : State → Prop} {A : Nat → Prop} {pc nL : Nat} {lv : List (Nat × Value)} {st : List Value} {cc : ByteArray}
variable {gg : Nat → Option Nat} {X Y Z M : Ob} {ts : List TD} {fo : Nat → Int64}
set_option maxHeartbeats 4000000 in
set_option maxRecDepth 100000 in
theorem lx_add (C : Cx E p s m args meth c A cc nL wsL_law RL) (inv : Inv gg X Z ts M) (p1 p2 : Int32) (h8 : (st.map fun v => v.category).sum ≤ 8) (hrm : kc + 9 ≤ room_1.cells ∧ ks + 434 ≤ room_1.slots) (d : decode cc pc = .ok (.invokevirtual 31, 3))
    (kk : ∀ (v : Int32) (gg' : Nat → Option Nat) (X' Y' Z' : Ob) (ts' : List TD) (M' : Ob), fX6_add p1 p2 M = some (v, M') → Inv gg' X' Z' ts' M' → XW E p l e room_1 s m args below meth c Zp A (kc + 9) (ks + 434) (LW E cL o q u ad bd cd om am ol gg' X' Y' Z' ts' M fo) (pc + 3) nL lv (.int v :: st)) : XW E p l e room_1 s m args below meth c Zp A kc ks (LW E cL o q u ad bd cd om am ol gg X Y Z ts M fo) pc nL lv (.int p2 :: .int p1 :: .ref o :: st) := by
  have hn8 := inv.1
  have h1 := inv.2.1
  rcases inv.ref p1 with ⟨t0, n0, n1⟩ | ⟨i, dd, rfl, hi, hlt, t0⟩
  · exact xl_face C (fun W => ok_X5_add_N t0 rfl) 2 gL_law_X5_add rfl ⟨rfl, rfl⟩ (by decide +kernel) ⟨Nat.le_of_ble_eq_true rfl, Nat.le_of_ble_eq_true rfl⟩ rfl h8 hrm rfl d (kk (-1) gg X Y Z ts (ob_i M 0 0) (by rw [fX6_add, px_let, n0, Option.bind_some, if_pos rfl]) (inv.m0 0))
  · obtain ⟨G, hT⟩ := inv.2.2.2.2.1 i dd hi
    have h1' : (ob_i M 0 0).1 1 = nI ts.length := h1
    have bad : ∀ (hf : fX5_add_T (nI i) p2 dd.2.1 dd.2.2.1 = some (-1, dd.2.1, dd.2.2.1)), fX6_add (nI i) p2 M = some (-1, ob_i M 0 0) → XW E p l e room_1 s m args below meth c Zp A kc ks (LW E cL o q u ad bd cd om am ol gg X Y Z ts M fo) pc nL lv (.int p2 :: .int (nI i) :: .ref o :: st) := fun hf hr => xl_tree (dd' := dd) hi C (fun W => ok_X5_add_T (z1 := dd.2.2.2) (r := (-1, dd.2.1, dd.2.2.1)) t0 hf) 2 gL_law_X5_add rfl ⟨rfl, rfl⟩ (by decide +kernel) ⟨Nat.le_of_ble_eq_true rfl, Nat.le_of_ble_eq_true rfl⟩ rfl h8 hrm rfl d (kk (-1) gg X Y Z (ts.set i dd) (ob_i M 0 0) hr (by rw [set_self hi]; exact inv.m0 0))
    have out : (p2 < 0 ∨ nI 64 ≤ p2) → XW E p l e room_1 s m args below meth c Zp A kc ks (LW E cL o q u ad bd cd om am ol gg X Y Z ts M fo) pc nL lv (.int p2 :: .int (nI i) :: .ref o :: st) := fun w => bad (by rw [fX5_add_T, isKey5_0 w]; rfl) (by rw [fX6_add, px_let, isTree_1 hn8 h1' hlt, Option.bind_some, if_neg (by decide), isKey6_0 w]; rfl)
    rcases pk_ix p2 (n := 64) (by omega) with w | w | ⟨k, hk, rfl⟩
    · exact out (Or.inl w)
    · exact out (Or.inr w)
    · have hh := hT.1.holds hk
      cases hI : gI G k with
      | true =>
        rw [hI] at hh
        have in7 := hT.1.isIn hk
        rw [hI] at in7
        have in7' : (ob_i M 0 0).2 7 (64 * i + k) = 1 := in7
        refine bad ?_ ?_
        · rw [fX5_add_T, isKey5_1 hk, Option.bind_some, if_neg (by decide), hh]; rfl
        · rw [fX6_add, px_let, isTree_1 hn8 h1' hlt, Option.bind_some, if_neg (by decide), isKey6_1 hk, Option.bind_some, if_neg (by decide), ix6 (by omega) hk, in7', if_neg (by decide)]
      | false =>
        rw [hI] at hh
        obtain ⟨r, M', T', y', G', a1, a2, a3, a4, a5⟩ := sim_addA hn8 h1 hlt hT hk hI
        have hf : fX5_add_T (nI i) (nI k) dd.2.1 dd.2.2.1 = some (r, T', y') := by
          rw [fX5_add_T, isKey5_1 hk, Option.bind_some, if_neg (by decide), hh, Option.bind_some, if_pos (by decide), a2]; rfl
        exact xl_tree (dd' := (dd.1, T', y', dd.2.2.2)) hi C (fun W => ok_X5_add_T (z1 := dd.2.2.2) (r := (r, T', y')) t0 hf) 2 gL_law_X5_add rfl ⟨rfl, rfl⟩ (by decide +kernel) ⟨Nat.le_of_ble_eq_true rfl, Nat.le_of_ble_eq_true rfl⟩ rfl h8 hrm rfl d (kk r gg X Y Z _ M' a1 (inv.upd hi rfl a4 (by decide) (by decide) (by decide) ⟨G', a3⟩))
set_option maxHeartbeats 4000000 in
set_option maxRecDepth 100000 in
theorem lx_clear (C : Cx E p s m args meth c A cc nL wsL_law RL) (inv : Inv gg X Z ts M) (p1 : Int32) (h8 : (st.map fun v => v.category).sum ≤ 8) (hrm : kc + 9 ≤ room_1.cells ∧ ks + 434 ≤ room_1.slots) (d : decode cc pc = .ok (.invokevirtual 57, 3))
    (kk : ∀ (v : Int32) (gg' : Nat → Option Nat) (X' Y' Z' : Ob) (ts' : List TD) (M' : Ob), fX6_clear p1 M = some (v, M') → Inv gg' X' Z' ts' M' → XW E p l e room_1 s m args below meth c Zp A (kc + 9) (ks + 434) (LW E cL o q u ad bd cd om am ol gg' X' Y' Z' ts' M fo) (pc + 3) nL lv (.int v :: st)) : XW E p l e room_1 s m args below meth c Zp A kc ks (LW E cL o q u ad bd cd om am ol gg X Y Z ts M fo) pc nL lv (.int p1 :: .ref o :: st) := by
  have hn8 := inv.1
  have h1 := inv.2.1
  rcases inv.ref p1 with ⟨t0, n0, n1⟩ | ⟨i, dd, rfl, hi, hlt, t0⟩
  · exact xl_face C (fun W => ok_X5_clear_N t0 rfl) 1 gL_law_X5_clear rfl ⟨rfl, rfl⟩ (by decide +kernel) ⟨Nat.le_of_ble_eq_true rfl, Nat.le_of_ble_eq_true rfl⟩ rfl h8 hrm rfl d (kk (-1) gg X Y Z ts (ob_i M 0 0) (by rw [fX6_clear, px_let, n0, Option.bind_some, if_pos rfl]) (inv.m0 0))
  · obtain ⟨G, hT⟩ := inv.2.2.2.2.1 i dd hi
    have h1' : (ob_i M 0 0).1 1 = nI ts.length := h1
    obtain ⟨v, M', z', a1, a2, a3, a4, a5⟩ := sim_clear hn8 h1 hlt hT
    exact xl_tree (dd' := (dd.1, dd.2.1, dd.2.2.1, z')) hi C (fun W => ok_X5_clear_T (x1 := dd.2.1) (y1 := dd.2.2.1) (r := (v, z')) t0 a2) 1 gL_law_X5_clear rfl ⟨rfl, rfl⟩ (by decide +kernel) ⟨Nat.le_of_ble_eq_true rfl, Nat.le_of_ble_eq_true rfl⟩ rfl h8 hrm rfl d (kk v gg X Y Z _ M' a1 (inv.upd hi rfl a4 (by decide) (by decide) (by decide) ⟨G, a3⟩))
set_option maxHeartbeats 4000000 in
set_option maxRecDepth 100000 in
theorem lx_count (C : Cx E p s m args meth c A cc nL wsL_law RL) (inv : Inv gg X Z ts M) (p1 p2 : Int32) (h8 : (st.map fun v => v.category).sum ≤ 8) (hrm : kc + 9 ≤ room_1.cells ∧ ks + 434 ≤ room_1.slots) (d : decode cc pc = .ok (.invokevirtual 65, 3))
    (kk : ∀ (v : Int32) (gg' : Nat → Option Nat) (X' Y' Z' : Ob) (ts' : List TD) (M' : Ob), fX6_count p1 p2 M = some (v, M') → Inv gg' X' Z' ts' M' → XW E p l e room_1 s m args below meth c Zp A (kc + 9) (ks + 434) (LW E cL o q u ad bd cd om am ol gg' X' Y' Z' ts' M fo) (pc + 3) nL lv (.int v :: st)) : XW E p l e room_1 s m args below meth c Zp A kc ks (LW E cL o q u ad bd cd om am ol gg X Y Z ts M fo) pc nL lv (.int p2 :: .int p1 :: .ref o :: st) := by
  have hn8 := inv.1
  have h1 := inv.2.1
  rcases inv.ref p1 with ⟨t0, n0, n1⟩ | ⟨i, dd, rfl, hi, hlt, t0⟩
  · exact xl_face C (fun W => ok_X5_count_N t0 rfl) 2 gL_law_X5_count rfl ⟨rfl, rfl⟩ (by decide +kernel) ⟨Nat.le_of_ble_eq_true rfl, Nat.le_of_ble_eq_true rfl⟩ rfl h8 hrm rfl d (kk (-1) gg X Y Z ts (ob_i M 0 0) (by rw [fX6_count, px_let, n0, Option.bind_some, if_pos rfl]) (inv.m0 0))
  · obtain ⟨G, hT⟩ := inv.2.2.2.2.1 i dd hi
    have h1' : (ob_i M 0 0).1 1 = nI ts.length := h1
    obtain ⟨v, a1, a2⟩ := sim_count hn8 h1 hlt hT p2
    exact xl_tree (dd' := dd) hi C (fun W => ok_X5_count_T (x1 := dd.2.1) (y1 := dd.2.2.1) (z1 := dd.2.2.2) t0 a2) 2 gL_law_X5_count rfl ⟨rfl, rfl⟩ (by decide +kernel) ⟨Nat.le_of_ble_eq_true rfl, Nat.le_of_ble_eq_true rfl⟩ rfl h8 hrm rfl d (kk v gg X Y Z (ts.set i dd) _ a1 (by rw [set_self hi]; exact inv.m0 0))
set_option maxHeartbeats 4000000 in
set_option maxRecDepth 100000 in
theorem lx_best (C : Cx E p s m args meth c A cc nL wsL_law RL) (inv : Inv gg X Z ts M) (p1 p2 : Int32) (h8 : (st.map fun v => v.category).sum ≤ 8) (hrm : kc + 9 ≤ room_1.cells ∧ ks + 434 ≤ room_1.slots) (d : decode cc pc = .ok (.invokevirtual 69, 3))
    (kk : ∀ (v : Int32) (gg' : Nat → Option Nat) (X' Y' Z' : Ob) (ts' : List TD) (M' : Ob), fX6_best p1 p2 M = some (v, M') → Inv gg' X' Z' ts' M' → XW E p l e room_1 s m args below meth c Zp A (kc + 9) (ks + 434) (LW E cL o q u ad bd cd om am ol gg' X' Y' Z' ts' M fo) (pc + 3) nL lv (.int v :: st)) : XW E p l e room_1 s m args below meth c Zp A kc ks (LW E cL o q u ad bd cd om am ol gg X Y Z ts M fo) pc nL lv (.int p2 :: .int p1 :: .ref o :: st) := by
  have hn8 := inv.1
  have h1 := inv.2.1
  rcases inv.ref p1 with ⟨t0, n0, n1⟩ | ⟨i, dd, rfl, hi, hlt, t0⟩
  · exact xl_face C (fun W => ok_X5_best_N t0 rfl) 2 gL_law_X5_best rfl ⟨rfl, rfl⟩ (by decide +kernel) ⟨Nat.le_of_ble_eq_true rfl, Nat.le_of_ble_eq_true rfl⟩ rfl h8 hrm rfl d (kk (-1) gg X Y Z ts (ob_i M 0 0) (by rw [fX6_best, px_let, n0, Option.bind_some, if_pos rfl]) (inv.m0 0))
  · obtain ⟨G, hT⟩ := inv.2.2.2.2.1 i dd hi
    have h1' : (ob_i M 0 0).1 1 = nI ts.length := h1
    obtain ⟨v, M', w', a1, a2, a3, a4, a5⟩ := sim_best hn8 h1 hlt hT inv.2.2.2.2.2.2.2 p2
    have i2 : Inv gg X Z ts M' := inv.mv (by rw [a4]; rfl) (by rw [a4]; rfl) (fun c hc => a5 c (by simp; omega)) (a5 27 (by decide))
    exact xl_tree (dd' := dd) hi C (fun W => ok_X5_best_T (x1 := dd.2.1) (y1 := dd.2.2.1) (z1 := dd.2.2.2) (r := (v, w')) t0 a2) 2 gL_law_X5_best rfl ⟨rfl, rfl⟩ (by decide +kernel) ⟨Nat.le_of_ble_eq_true rfl, Nat.le_of_ble_eq_true rfl⟩ rfl h8 hrm rfl d (kk v gg X Y w' (ts.set i dd) M' a1 (by rw [set_self hi]; exact ⟨i2.1, i2.2.1, i2.2.2.1, i2.2.2.2.1, i2.2.2.2.2.1, i2.2.2.2.2.2.1, i2.2.2.2.2.2.2.1, a3⟩))
set_option maxHeartbeats 4000000 in
set_option maxRecDepth 100000 in
theorem lx_interleave (C : Cx E p s m args meth c A cc nL wsL_law RL) (inv : Inv gg X Z ts M) (p1 : Int32) (h8 : (st.map fun v => v.category).sum ≤ 8) (hrm : kc + 9 ≤ room_1.cells ∧ ks + 434 ≤ room_1.slots) (d : decode cc pc = .ok (.invokevirtual 73, 3))
    (kk : ∀ (v : Int32) (gg' : Nat → Option Nat) (X' Y' Z' : Ob) (ts' : List TD) (M' : Ob), fX6_interleave p1 M = some (v, M') → Inv gg' X' Z' ts' M' → XW E p l e room_1 s m args below meth c Zp A (kc + 9) (ks + 434) (LW E cL o q u ad bd cd om am ol gg' X' Y' Z' ts' M fo) (pc + 3) nL lv (.int v :: st)) : XW E p l e room_1 s m args below meth c Zp A kc ks (LW E cL o q u ad bd cd om am ol gg X Y Z ts M fo) pc nL lv (.int p1 :: .ref o :: st) := by
  have hn8 := inv.1
  have h1 := inv.2.1
  rcases inv.ref p1 with ⟨t0, n0, n1⟩ | ⟨i, dd, rfl, hi, hlt, t0⟩
  · exact xl_face C (fun W => ok_X5_interleave_N t0 rfl) 1 gL_law_X5_interleave rfl ⟨rfl, rfl⟩ (by decide +kernel) ⟨Nat.le_of_ble_eq_true rfl, Nat.le_of_ble_eq_true rfl⟩ rfl h8 hrm rfl d (kk (-1) gg X Y Z ts (ob_i M 0 0) (by rw [fX6_interleave, px_let, n0, Option.bind_some, if_pos rfl]) (inv.m0 0))
  · obtain ⟨G, hT⟩ := inv.2.2.2.2.1 i dd hi
    have h1' : (ob_i M 0 0).1 1 = nI ts.length := h1
    obtain ⟨v, f, a1, a2⟩ := sim_inter (w := X) hn8 h1 hlt hT
    have i2 := inv.m0 0
    exact xl_tree (dd' := dd) hi C (fun W => ok_X5_interleave_T (x1 := dd.2.1) (y1 := dd.2.2.1) (z1 := dd.2.2.2) (r := (v, ob_f X 4 f)) t0 a2) 1 gL_law_X5_interleave rfl ⟨rfl, rfl⟩ (by decide +kernel) ⟨Nat.le_of_ble_eq_true rfl, Nat.le_of_ble_eq_true rfl⟩ rfl h8 hrm rfl d (kk v gg (ob_f X 4 f) Y Z (ts.set i dd) _ a1 (by rw [set_self hi]; exact ⟨i2.1, i2.2.1, i2.2.2.1, i2.2.2.2.1, i2.2.2.2.2.1, i2.2.2.2.2.2.1, i2.2.2.2.2.2.2.1, i2.2.2.2.2.2.2.2⟩))
set_option maxHeartbeats 4000000 in
set_option maxRecDepth 100000 in
theorem lx_sweep (C : Cx E p s m args meth c A cc nL wsL_law RL) (inv : Inv gg X Z ts M) (p1 : Int32) (h8 : (st.map fun v => v.category).sum ≤ 8) (hrm : kc + 9 ≤ room_1.cells ∧ ks + 434 ≤ room_1.slots) (d : decode cc pc = .ok (.invokevirtual 77, 3))
    (kk : ∀ (v : Int32) (gg' : Nat → Option Nat) (X' Y' Z' : Ob) (ts' : List TD) (M' : Ob), fX6_sweep p1 M = some (v, M') → Inv gg' X' Z' ts' M' → XW E p l e room_1 s m args below meth c Zp A (kc + 9) (ks + 434) (LW E cL o q u ad bd cd om am ol gg' X' Y' Z' ts' M fo) (pc + 3) nL lv (.int v :: st)) : XW E p l e room_1 s m args below meth c Zp A kc ks (LW E cL o q u ad bd cd om am ol gg X Y Z ts M fo) pc nL lv (.int p1 :: .ref o :: st) := by
  have hn8 := inv.1
  have h1 := inv.2.1
  rcases inv.ref p1 with ⟨t0, n0, n1⟩ | ⟨i, dd, rfl, hi, hlt, t0⟩
  · exact xl_face C (fun W => ok_X5_sweep_N t0 rfl) 1 gL_law_X5_sweep rfl ⟨rfl, rfl⟩ (by decide +kernel) ⟨Nat.le_of_ble_eq_true rfl, Nat.le_of_ble_eq_true rfl⟩ rfl h8 hrm rfl d (kk (-1) gg X Y Z ts (ob_i M 0 0) (by rw [fX6_sweep, px_let, n0, Option.bind_some, if_pos rfl]) (inv.m0 0))
  · obtain ⟨G, hT⟩ := inv.2.2.2.2.1 i dd hi
    have h1' : (ob_i M 0 0).1 1 = nI ts.length := h1
    obtain ⟨v, M', f, a1, a2, a4, a5⟩ := sim_sweep (w := X) hn8 h1 hlt hT
    have i2 : Inv gg X Z ts M' := inv.mv (by rw [a4]; rfl) (by rw [a4]; rfl) (fun c hc => a5 c (by simp; omega)) (a5 27 (by decide))
    exact xl_tree (dd' := dd) hi C (fun W => ok_X5_sweep_T (x1 := dd.2.1) (y1 := dd.2.2.1) (z1 := dd.2.2.2) (r := (v, ob_f X 4 f)) t0 a2) 1 gL_law_X5_sweep rfl ⟨rfl, rfl⟩ (by decide +kernel) ⟨Nat.le_of_ble_eq_true rfl, Nat.le_of_ble_eq_true rfl⟩ rfl h8 hrm rfl d (kk v gg (ob_f X 4 f) Y Z (ts.set i dd) _ a1 (by rw [set_self hi]; exact ⟨i2.1, i2.2.1, i2.2.2.1, i2.2.2.2.1, i2.2.2.2.2.1, i2.2.2.2.2.2.1, i2.2.2.2.2.2.2.1, i2.2.2.2.2.2.2.2⟩))
set_option maxHeartbeats 4000000 in
set_option maxRecDepth 100000 in
theorem lx_pages (C : Cx E p s m args meth c A cc nL wsL_law RL) (inv : Inv gg X Z ts M) (p1 p2 p3 : Int32) (h8 : (st.map fun v => v.category).sum ≤ 8) (hrm : kc + 9 ≤ room_1.cells ∧ ks + 434 ≤ room_1.slots) (d : decode cc pc = .ok (.invokevirtual 81, 3))
    (kk : ∀ (v : Int32) (gg' : Nat → Option Nat) (X' Y' Z' : Ob) (ts' : List TD) (M' : Ob), fX6_pages p1 p2 p3 M = some (v, M') → Inv gg' X' Z' ts' M' → XW E p l e room_1 s m args below meth c Zp A (kc + 9) (ks + 434) (LW E cL o q u ad bd cd om am ol gg' X' Y' Z' ts' M fo) (pc + 3) nL lv (.int v :: st)) : XW E p l e room_1 s m args below meth c Zp A kc ks (LW E cL o q u ad bd cd om am ol gg X Y Z ts M fo) pc nL lv (.int p3 :: .int p2 :: .int p1 :: .ref o :: st) := by
  have hn8 := inv.1
  have h1 := inv.2.1
  rcases inv.ref p1 with ⟨t0, n0, n1⟩ | ⟨i, dd, rfl, hi, hlt, t0⟩
  · exact xl_face C (fun W => ok_X5_pages_N t0 rfl) 3 gL_law_X5_pages rfl ⟨rfl, rfl⟩ (by decide +kernel) ⟨Nat.le_of_ble_eq_true rfl, Nat.le_of_ble_eq_true rfl⟩ rfl h8 hrm rfl d (kk (-1) gg X Y Z ts (ob_i M 0 0) (by rw [fX6_pages, px_let, n0, Option.bind_some, if_pos rfl]) (inv.m0 0))
  · obtain ⟨G, hT⟩ := inv.2.2.2.2.1 i dd hi
    have h1' : (ob_i M 0 0).1 1 = nI ts.length := h1
    obtain ⟨v, M', w', a1, a2, a4, a5⟩ := sim_pages (w := Y) hn8 h1 hlt hT p2 p3
    have i2 : Inv gg X Z ts M' := inv.mv (by rw [a4]; rfl) (by rw [a4]; rfl) (fun c hc => a5 c (by simp; omega)) (a5 27 (by decide))
    exact xl_tree (dd' := dd) hi C (fun W => ok_X5_pages_T (x1 := dd.2.1) (y1 := dd.2.2.1) (z1 := dd.2.2.2) (r := (v, w')) t0 a2) 3 gL_law_X5_pages rfl ⟨rfl, rfl⟩ (by decide +kernel) ⟨Nat.le_of_ble_eq_true rfl, Nat.le_of_ble_eq_true rfl⟩ rfl h8 hrm rfl d (kk v gg X w' Z (ts.set i dd) _ a1 (by rw [set_self hi]; exact i2))
set_option maxHeartbeats 4000000 in
set_option maxRecDepth 100000 in
theorem lx_keep (C : Cx E p s m args meth c A cc nL wsL_law RL) (inv : Inv gg X Z ts M) (p1 : Int32) (h8 : (st.map fun v => v.category).sum ≤ 8) (hrm : kc + 9 ≤ room_1.cells ∧ ks + 434 ≤ room_1.slots) (d : decode cc pc = .ok (.invokevirtual 85, 3))
    (kk : ∀ (v : Int32) (gg' : Nat → Option Nat) (X' Y' Z' : Ob) (ts' : List TD) (M' : Ob), fX6_keep p1 M = some (v, M') → Inv gg' X' Z' ts' M' → XW E p l e room_1 s m args below meth c Zp A (kc + 9) (ks + 434) (LW E cL o q u ad bd cd om am ol gg' X' Y' Z' ts' M fo) (pc + 3) nL lv (.int v :: st)) : XW E p l e room_1 s m args below meth c Zp A kc ks (LW E cL o q u ad bd cd om am ol gg X Y Z ts M fo) pc nL lv (.int p1 :: .ref o :: st) := by
  have hn8 := inv.1
  have h1 := inv.2.1
  rcases inv.ref p1 with ⟨t0, n0, n1⟩ | ⟨i, dd, rfl, hi, hlt, t0⟩
  · exact xl_face C (fun W => ok_X5_keep_N t0 rfl) 1 gL_law_X5_keep rfl ⟨rfl, rfl⟩ (by decide +kernel) ⟨Nat.le_of_ble_eq_true rfl, Nat.le_of_ble_eq_true rfl⟩ rfl h8 hrm rfl d (kk (-1) gg X Y Z ts (ob_i M 0 0) (by rw [fX6_keep, px_let, n0, Option.bind_some, if_pos rfl]) (inv.m0 0))
  · obtain ⟨G, hT⟩ := inv.2.2.2.2.1 i dd hi
    have h1' : (ob_i M 0 0).1 1 = nI ts.length := h1
    obtain ⟨v, M', w', a1, a2, a3, a4, a5, a6, a7⟩ := sim_keep (w := X) hn8 h1 hlt hT inv.2.2.2.2.2.2.1
    obtain ⟨b1, b2, b3, b4, b5, b6, -, b8⟩ := inv
    have i2 : Inv gg w' Z ts M' := by
      refine ⟨b1, by rw [a4 1 (by decide)]; exact b2, by rw [a6 1 (by decide)]; exact b3, b4, fun j d hj => ?_, fun j q1 q2 => ?_, a3, b8⟩
      · obtain ⟨G, hG⟩ := b5 j d hj
        exact ⟨G, hG.loc (fun c x hc _ => by rw [a5 c (by omega)])⟩
      · exact (b6 j q1 q2).loc (fun c x hc _ => by rw [a5 c (by omega)])
    exact xl_tree (dd' := dd) hi C (fun W => ok_X5_keep_T (x1 := dd.2.1) (y1 := dd.2.2.1) (z1 := dd.2.2.2) (r := (v, w')) t0 a2) 1 gL_law_X5_keep rfl ⟨rfl, rfl⟩ (by decide +kernel) ⟨Nat.le_of_ble_eq_true rfl, Nat.le_of_ble_eq_true rfl⟩ rfl h8 hrm rfl d (kk v gg w' Y Z (ts.set i dd) _ a1 (by rw [set_self hi]; exact i2))
set_option maxHeartbeats 4000000 in
set_option maxRecDepth 100000 in
theorem lx_kept (C : Cx E p s m args meth c A cc nL wsL_law RL) (inv : Inv gg X Z ts M) (p1 p2 : Int32) (h8 : (st.map fun v => v.category).sum ≤ 8) (hrm : kc + 9 ≤ room_1.cells ∧ ks + 434 ≤ room_1.slots) (d : decode cc pc = .ok (.invokevirtual 89, 3))
    (kk : ∀ (v : Int32) (gg' : Nat → Option Nat) (X' Y' Z' : Ob) (ts' : List TD) (M' : Ob), fX6_kept p1 p2 M = some (v, M') → Inv gg' X' Z' ts' M' → XW E p l e room_1 s m args below meth c Zp A (kc + 9) (ks + 434) (LW E cL o q u ad bd cd om am ol gg' X' Y' Z' ts' M fo) (pc + 3) nL lv (.int v :: st)) : XW E p l e room_1 s m args below meth c Zp A kc ks (LW E cL o q u ad bd cd om am ol gg X Y Z ts M fo) pc nL lv (.int p2 :: .int p1 :: .ref o :: st) := by
  obtain ⟨v, a1, a2⟩ := sim_kept inv.2.2.2.2.2.2.1 p1 p2
  exact xl_face C (fun W => ok_X5_kept_F a2) 2 gL_law_X5_kept rfl ⟨rfl, rfl⟩ (by decide +kernel) ⟨Nat.le_of_ble_eq_true rfl, Nat.le_of_ble_eq_true rfl⟩ rfl h8 hrm rfl d (kk v gg X Y Z ts (ob_i M 0 0) a1 (inv.m0 0))
set_option maxHeartbeats 4000000 in
set_option maxRecDepth 100000 in
theorem lx_join (C : Cx E p s m args meth c A cc nL wsL_law RL) (inv : Inv gg X Z ts M) (p1 p2 : Int32) (h8 : (st.map fun v => v.category).sum ≤ 8) (hrm : kc + 9 ≤ room_1.cells ∧ ks + 434 ≤ room_1.slots) (d : decode cc pc = .ok (.invokevirtual 52, 3))
    (kk : ∀ (v : Int32) (gg' : Nat → Option Nat) (X' Y' Z' : Ob) (ts' : List TD) (M' : Ob), fX6_join p1 p2 M = some (v, M') → Inv gg' X' Z' ts' M' → XW E p l e room_1 s m args below meth c Zp A (kc + 9) (ks + 434) (LW E cL o q u ad bd cd om am ol gg' X' Y' Z' ts' M fo) (pc + 3) nL lv (.int v :: st)) : XW E p l e room_1 s m args below meth c Zp A kc ks (LW E cL o q u ad bd cd om am ol gg X Y Z ts M fo) pc nL lv (.int p2 :: .int p1 :: .ref o :: st) := by
  have hn8 := inv.1
  have h1 := inv.2.1
  rcases inv.ref p1 with ⟨t0, n0, n1⟩ | ⟨i, dd, rfl, hi, hlt, t0⟩
  · have r0 : fX6_join p1 p2 M = some (0, ob_i M 0 0) := by rw [fX6_join, px_let, n0, Option.bind_some, if_pos rfl]
    rcases inv.ref p2 with ⟨u0, m0, m1⟩ | ⟨j, ee, rfl, hj, hjt, u0⟩
    · exact xl_face C (fun W => ok_X5_join_NN t0 u0 rfl) 2 gL_law_X5_join rfl ⟨rfl, rfl⟩ (by decide +kernel) ⟨Nat.le_of_ble_eq_true rfl, Nat.le_of_ble_eq_true rfl⟩ rfl h8 hrm rfl d (kk 0 gg X Y Z ts (ob_i M 0 0) r0 (inv.m0 0))
    · exact xl_face C (fun W => ok_X5_join_NA t0 u0 rfl) 2 gL_law_X5_join rfl ⟨rfl, rfl⟩ (by decide +kernel) ⟨Nat.le_of_ble_eq_true rfl, Nat.le_of_ble_eq_true rfl⟩ rfl h8 hrm rfl d (kk 0 gg X Y Z ts (ob_i M 0 0) r0 (inv.m0 0))
  · obtain ⟨G, hT⟩ := inv.2.2.2.2.1 i dd hi
    have h1' : (ob_i M 0 0).1 1 = nI ts.length := h1
    rcases inv.ref p2 with ⟨u0, m0, m1⟩ | ⟨j, ee, rfl, hj, hjt, u0⟩
    · exact xl_face C (fun W => ok_X5_join_AN t0 u0 rfl) 2 gL_law_X5_join rfl ⟨rfl, rfl⟩ (by decide +kernel) ⟨Nat.le_of_ble_eq_true rfl, Nat.le_of_ble_eq_true rfl⟩ rfl h8 hrm rfl d (kk 0 gg X Y Z ts (ob_i M 0 0) (by rw [fX6_join, px_let, isTree_1 hn8 h1' hlt, Option.bind_some, if_neg (by decide), m0, Option.bind_some, if_pos rfl]) (inv.m0 0))
    · by_cases hij : i = j
      · subst hij
        rw [hi] at hj
        cases hj
        exact xl_face C (fun W => ok_X5_join_AA t0 t0 rfl) 2 gL_law_X5_join rfl ⟨rfl, rfl⟩ (by decide +kernel) ⟨Nat.le_of_ble_eq_true rfl, Nat.le_of_ble_eq_true rfl⟩ rfl h8 hrm rfl d (kk 0 gg X Y Z ts (ob_i M 0 0) (by rw [fX6_join, px_let, isTree_1 hn8 h1' hlt, Option.bind_some, if_neg (by decide), Option.bind_some, if_neg (by decide), if_pos rfl]) (inv.m0 0))
      · obtain ⟨G2, hT2⟩ := inv.2.2.2.2.1 j ee hj
        obtain ⟨v, M', T', yf, T2', y2f, Gf, Gf2, a1, a2, a3, a4, a5, a6⟩ := sim_join hn8 h1 hlt hjt hij hT hT2
        -- the two trees lie apart
        intro H locs ls hP hD hS hl
        have hne : ¬ dd.1.1 = ee.1.1 := by
          intro w
          obtain ⟨r, hr⟩ := set_p2 ts i j hlt hjt hij
          have e0 : (ts.set i dd).set j ee = ts := by rw [set_self hi, set_self hj]
          have pm := (wTs_perm (E := E) (hr dd ee)).append_right (wF E o q u ad bd cd gg X Y Z ++ (w6 E om am M ++ wO cL ol fo))
          rw [e0] at pm
          have hD2 := vD_perm pm hD
          have := hD2.1 0 9 _ _ rfl rfl w
          omega
        exact xl_two (d1' := (dd.1, T', yf, dd.2.2.2)) (d2' := (ee.1, T2', y2f, ee.2.2.2)) hi hj hij C (fun W => ok_X5_join_TT (z1 := dd.2.2.2) (z2 := ee.2.2.2) (r := (v, T', yf, T2', y2f)) t0 u0 hne a2) 2 gL_law_X5_join rfl ⟨rfl, rfl⟩ (by decide +kernel) ⟨Nat.le_of_ble_eq_true rfl, Nat.le_of_ble_eq_true rfl⟩ rfl h8 hrm rfl d (kk v gg X Y Z _ M' a1 (inv.upd2 hi hj hij rfl rfl a5 (by decide) (by decide) (by decide) ⟨Gf, a3⟩ ⟨Gf2, a4⟩)) H locs ls hP hD hS hl
end LX
