section LX
variable {kc ks : Nat} {E : En} {cL : ClassId} {o q u : Nat} {ad bd cd : Nat → Nat} {om : Nat} {am : Nat → Nat} {ol : Nat} {p : Program} {l : Launch} {e : Env} {s : State} {m : MethodId} {args : Array Value} {below : List Frame} {meth : Method} {c : Code} {Zp : State → Prop} {A : Nat → Prop} {pc nL : Nat} {lv : List (Nat × Value)} {st : List Value} {cc : ByteArray}
variable {gg : Nat → Option Nat} {X Y Z M : Ob} {ts : List TD} {fo : Nat → Int64}
set_option maxHeartbeats 4000000 in
set_option maxRecDepth 100000 in
theorem lx_tree (C : Cx E p s m args meth c A cc nL wsL_law RL) (inv : Inv gg X Z ts M) (p1 : Int32) (h8 : (st.map fun v => v.category).sum ≤ 8) (hrm : kc + 9 ≤ room_1.cells ∧ ks + 434 ≤ room_1.slots) (d : decode cc pc = .ok (.invokevirtual 26, 3))
    (kk : ∀ (v : Int32) (gg' : Nat → Option Nat) (X' Y' Z' : Ob) (ts' : List TD) (M' : Ob), fX6_tree p1 M = some (v, M') → Inv gg' X' Z' ts' M' → XW E p l e room_1 s m args below meth c Zp A (kc + 9) (ks + 434) (LW E cL o q u ad bd cd om am ol gg' X' Y' Z' ts' M fo) (pc + 3) nL lv (.int v :: st)) : XW E p l e room_1 s m args below meth c Zp A kc ks (LW E cL o q u ad bd cd om am ol gg X Y Z ts M fo) pc nL lv (.int p1 :: .ref o :: st) := by
  have hn8 := inv.1
  have h1 := inv.2.1
  have hX := inv.2.2.1
  have hw : LW E cL o q u ad bd cd om am ol gg X Y Z ts M fo = wTs E ts ++ w5 E o ad q u X gg ++ (w1 E q bd Y ++ (w0 E u cd Z ++ (w6 E om am M ++ wO cL ol fo))) := by unfold LW wF; simp only [List.append_assoc]
  have bad : CI l yX5_tree wsX5_tree rmX5_tree_F [.ref o, .int p1] E (w5 E o ad q u X gg) (w5 E o ad q u X gg) (-1) → fX6_tree p1 M = some (-1, ob_i M 0 0) → XW E p l e room_1 s m args below meth c Zp A kc ks (LW E cL o q u ad bd cd om am ol gg X Y Z ts M fo) pc nL lv (.int p1 :: .ref o :: st) := by
    intro hM hr
    refine xw_widen (kc + 9) (ks + 434) (by omega) (by omega) ?_
    exact xw_callVI (w' := LW E cL o q u ad bd cd om am ol gg X Y Z ts M fo) (u := wTs E ts) (v := (w1 E q bd Y ++ (w0 E u cd Z ++ (w6 E om am M ++ wO cL ol fo)))) C hM 1 gL_law_X5_tree rfl ⟨rfl, rfl⟩ (by decide +kernel) ⟨Nat.le_of_ble_eq_true rfl, Nat.le_of_ble_eq_true rfl⟩ 0 5 rfl rfl rfl h8 hrm rfl hw hw.symm d (kk (-1) gg X Y Z ts _ hr (inv.m0 0))
  by_cases q1 : p1 < 0
  · exact bad (ok_X5_tree_K (Or.inl q1)) (by rw [fX6_tree, px_let, if_pos q1])
  by_cases q2 : (5 : Int32) < p1
  · exact bad (ok_X5_tree_K (Or.inr q2)) (by rw [fX6_tree, px_let, if_neg q1, if_pos q2])
  have q2' : p1 ≤ 5 := Int32.not_lt.mp q2
  by_cases q3 : ts.length = 8
  · refine bad (ok_X5_tree_F q1 q2' (Or.inr (by rw [hX, q3]; decide))) ?_
    have h1' : (ob_i M 0 0).1 1 = nI ts.length := h1
    rw [fX6_tree, px_let, if_neg q1, if_neg q2, h1', q3, if_pos (by decide)]
  · have hlt : ts.length < 8 := by omega
    obtain ⟨κ, e1, e2⟩ : ∃ κ, κ ≤ 5 ∧ p1 = nI κ := by
      obtain ⟨j, j1, j2⟩ := nI_of2 (x := p1) (M := 5) (n := 5) rfl q1 q2'
      exact ⟨j, j1, j2⟩
    subst e2
    obtain ⟨f1, g1, g2⟩ := fill_ok 64 (by omega) (-1) (fun _ => 0)
    refine xw_callVM (u := wTs E ts) (v := (w1 E q bd Y ++ (w0 E u cd Z ++ (w6 E om am M ++ wO cL ol fo)))) C (ok_X5_tree_M (l := l) (E := E) (o := o) (q := q) (u := u) (ad := ad) (gg := gg) (x := X) g1 q1 q2' (by rw [hX]; exact nI_pos (by omega)) (by rw [hX]; exact nI_lt hlt (by omega))) 1 gL_law_X5_tree rfl (by decide +kernel) ⟨Nat.le_of_ble_eq_true rfl, Nat.le_of_ble_eq_true rfl⟩ 0 5 rfl rfl rfl h8 hrm rfl hw d (fun a => ?_)
    obtain ⟨M', b1, b2⟩ := ref_tree inv hlt e1 g2 a
    have ev : X.1 1 + 1 - 1 = nI ts.length := by rw [hX, nI_1, nI_pred]
    rw [ev]
    refine xw_pm ?_ (kk (nI ts.length) _ _ Y Z _ M' b1 b2)
    have ew : ∀ d : TD, wTs E (ts ++ [d]) = wTs E ts ++ twd E d := by
      intro d
      have key : ∀ t : List TD, wTs E (t ++ [d]) = wTs E t ++ twd E d := by
        intro t
        induction t with
        | nil => show twd E d ++ [] = _; rw [List.append_nil]; rfl
        | cons x t ih => show twd E x ++ wTs E (t ++ [d]) = (twd E x ++ wTs E t) ++ twd E d; rw [ih, List.append_assoc]
      exact key ts
    unfold LW wF
    rw [ew]
    simp only [List.append_assoc]
    exact (pm_a _ _ _).append_left _
set_option maxHeartbeats 4000000 in
set_option maxRecDepth 100000 in
theorem lx_split (C : Cx E p s m args meth c A cc nL wsL_law RL) (inv : Inv gg X Z ts M) (p1 p2 : Int32) (h8 : (st.map fun v => v.category).sum ≤ 8) (hrm : kc + 9 ≤ room_1.cells ∧ ks + 434 ≤ room_1.slots) (d : decode cc pc = .ok (.invokevirtual 48, 3))
    (kk : ∀ (v : Int32) (gg' : Nat → Option Nat) (X' Y' Z' : Ob) (ts' : List TD) (M' : Ob), fX6_split p1 p2 M = some (v, M') → Inv gg' X' Z' ts' M' → XW E p l e room_1 s m args below meth c Zp A (kc + 9) (ks + 434) (LW E cL o q u ad bd cd om am ol gg' X' Y' Z' ts' M fo) (pc + 3) nL lv (.int v :: st)) : XW E p l e room_1 s m args below meth c Zp A kc ks (LW E cL o q u ad bd cd om am ol gg X Y Z ts M fo) pc nL lv (.int p2 :: .int p1 :: .ref o :: st) := by
  have hn8 := inv.1
  have h1 := inv.2.1
  have hX := inv.2.2.1
  have hw : LW E cL o q u ad bd cd om am ol gg X Y Z ts M fo = wTs E ts ++ w5 E o ad q u X gg ++ (w1 E q bd Y ++ (w0 E u cd Z ++ (w6 E om am M ++ wO cL ol fo))) := by unfold LW wF; simp only [List.append_assoc]
  have bad : CI l yX5_split wsX5_split rmX5_split_F [.ref o, .int p1, .int p2] E (w5 E o ad q u X gg) (w5 E o ad q u X gg) (-1) → fX6_split p1 p2 M = some (-1, ob_i M 0 0) → XW E p l e room_1 s m args below meth c Zp A kc ks (LW E cL o q u ad bd cd om am ol gg X Y Z ts M fo) pc nL lv (.int p2 :: .int p1 :: .ref o :: st) := by
    intro hM hr
    refine xw_widen (kc + 9) (ks + 434) (by omega) (by omega) ?_
    exact xw_callVI (w' := LW E cL o q u ad bd cd om am ol gg X Y Z ts M fo) (u := wTs E ts) (v := (w1 E q bd Y ++ (w0 E u cd Z ++ (w6 E om am M ++ wO cL ol fo)))) C hM 2 gL_law_X5_split rfl ⟨rfl, rfl⟩ (by decide +kernel) ⟨Nat.le_of_ble_eq_true rfl, Nat.le_of_ble_eq_true rfl⟩ 0 5 rfl rfl rfl h8 hrm rfl hw hw.symm d (kk (-1) gg X Y Z ts _ hr (inv.m0 0))
  rcases inv.ref p1 with ⟨t0, n0, n1⟩ | ⟨i, dd, rfl, hi, hlt, t0⟩
  · exact bad (ok_X5_split_N t0) (by rw [fX6_split, px_let, n0, Option.bind_some, if_pos rfl])
  · obtain ⟨G, hT⟩ := inv.2.2.2.2.1 i dd hi
    have h1' : (ob_i M 0 0).1 1 = nI ts.length := h1
    have out : (p2 < 0 ∨ nI 64 ≤ p2) → XW E p l e room_1 s m args below meth c Zp A kc ks (LW E cL o q u ad bd cd om am ol gg X Y Z ts M fo) pc nL lv (.int p2 :: .int (nI i) :: .ref o :: st) := fun w => bad (ok_X5_split_K t0 (isKey5_0 w)) (by rw [fX6_split, px_let, isTree_1 hn8 h1' hlt, Option.bind_some, if_neg (by decide), isKey6_0 w]; rfl)
    rcases pk_ix p2 (n := 64) (by omega) with w | w | ⟨k, hk, rfl⟩
    · exact out (Or.inl w)
    · exact out (Or.inr w)
    · obtain ⟨r, hr⟩ := pm_t (E := E) hlt
      have reas : ∀ (t : va_W) (x : Ob) (g : Nat → Option Nat) (V : va_W), t ++ wF E o q u ad bd cd g x Y Z ++ V = [] ++ (t ++ w5 E o ad q u x g) ++ (w1 E q bd Y ++ (w0 E u cd Z ++ V)) := by
        intro t x g V; unfold wF; simp only [List.append_assoc, List.nil_append]
      have h0 := hr dd (wF E o q u ad bd cd gg X Y Z) (w6 E om am M ++ wO cL ol fo)
      rw [set_self hi] at h0
      by_cases q3 : ts.length = 8
      · have rf : fX6_split (nI i) (nI k) M = some (-1, ob_i M 0 0) := by
          rw [fX6_split, px_let, isTree_1 hn8 h1' hlt, Option.bind_some, if_neg (by decide), isKey6_1 hk, Option.bind_some, if_neg (by decide), h1', q3, if_pos (by decide)]
        refine xw_widen (kc + 9) (ks + 434) (by omega) (by omega) ?_
        refine xw_pm h0 ?_
        refine xw_callVI (w' := twd E dd ++ wF E o q u ad bd cd gg X Y Z ++ (wTs E r ++ (w6 E om am M ++ wO cL ol fo))) (u := []) (v := w1 E q bd Y ++ (w0 E u cd Z ++ (wTs E r ++ (w6 E om am M ++ wO cL ol fo)))) C (ok_X5_split_F (x1 := dd.2.1) (y1 := dd.2.2.1) (z1 := dd.2.2.2) (q1 := dd.1.2.1) (u1 := dd.1.2.2.1) (ad1 := dd.1.2.2.2.1) (bd1 := dd.1.2.2.2.2) t0 (isKey5_1 hk) (Or.inr (by rw [hX, q3]; decide))) 2 gL_law_X5_split rfl ⟨rfl, rfl⟩ (by decide +kernel) ⟨Nat.le_of_ble_eq_true rfl, Nat.le_of_ble_eq_true rfl⟩ 9 5 rfl rfl rfl h8 hrm rfl (reas _ _ _ _) (reas _ _ _ _).symm d ?_
        exact xw_pm h0.symm (kk (-1) gg X Y Z ts _ rf (inv.m0 0))
      · have hn : ts.length < 8 := by omega
        obtain ⟨f1, g1, g2⟩ := fill_ok 64 (by omega) (-1) (fun _ => 0)
        obtain ⟨M', y', yn, T', Tn, c1, c2, c3, c4, c5, c6, c7, c8, c9⟩ := sim_split (c := k) hn h1 hlt hT (inv.2.2.2.2.2.1 ts.length (Nat.le_refl _) hn) hk g2
        refine xw_pm h0 ?_
        refine xw_callVM (u := []) (v := w1 E q bd Y ++ (w0 E u cd Z ++ (wTs E r ++ (w6 E om am M ++ wO cL ol fo)))) C (ok_X5_split_M (l := l) (E := E) (o := o) (q := q) (u := u) (ad := ad) (gg := gg) (x := X) (z1 := dd.2.2.2) (q1 := dd.1.2.1) (u1 := dd.1.2.2.1) (ad1 := dd.1.2.2.2.1) (bd1 := dd.1.2.2.2.2) (r := (y', yn)) g1 t0 (isKey5_1 hk) (by rw [hX]; exact nI_pos (by omega)) (by rw [hX]; exact nI_lt hn (by omega)) c2 c3 c4) 2 gL_law_X5_split rfl (by decide +kernel) ⟨Nat.le_of_ble_eq_true rfl, Nat.le_of_ble_eq_true rfl⟩ 9 5 rfl rfl rfl h8 hrm rfl (reas _ _ _ _) d (fun a => ?_)
        have ev : X.1 1 + 1 - 1 = nI ts.length := by rw [hX, nI_1, nI_pred]
        rw [ev]
        have i2 : Inv (va_up gg (X.1 1).toNatClampNeg (some a.1)) (ob_i X 1 (X.1 1 + 1)) Z (ts.set i (dd.1, T', y', dd.2.2.2) ++ [(a, Tn, yn, ob0)]) M' := by
          refine inv.more hn (List.length_set ..) (fun j d9 hj => ?_) ⟨_, c6⟩ c7 (c9.1 26 (by decide)) (c9.2.1 27 (by decide)) (fun j w1 w2 => ?_)
          · rw [get_set hlt] at hj
            by_cases w : j = i
            · rw [if_pos w] at hj; cases hj; subst w
              exact ⟨⟨dd, hi, rfl⟩, ⟨_, c5⟩⟩
            · rw [if_neg w] at hj
              obtain ⟨G9, hG9⟩ := inv.2.2.2.2.1 j d9 hj
              have hjl := (List.getElem?_eq_some_iff.mp hj).1
              exact ⟨⟨d9, hj, rfl⟩, ⟨G9, hG9.fr3 c9 w (by omega)⟩⟩
          · exact (inv.2.2.2.2.2.1 j (by omega) w2).loc (fun c x hc hx => c9.2.2 c x hc (fun z => by have := inT_dis hx z; omega) (fun z => by have := inT_dis hx z; omega))
        refine xw_pm ?_ (kk (nI ts.length) _ _ Y Z _ M' c1 i2)
        have key : ∀ (t : List TD) (d9 : TD), wTs E (t ++ [d9]) = wTs E t ++ twd E d9 := by
          intro t d9
          induction t with
          | nil => show twd E d9 ++ [] = _; rw [List.append_nil]; rfl
          | cons x t ih => show twd E x ++ wTs E (t ++ [d9]) = (twd E x ++ wTs E t) ++ twd E d9; rw [ih, List.append_assoc]
        have h2 := (hr (dd.1, T', y', dd.2.2.2) (twd E (a, Tn, yn, ob0) ++ wF E o q u ad bd cd (va_up gg (X.1 1).toNatClampNeg (some a.1)) (ob_i X 1 (X.1 1 + 1)) Y Z) (w6 E om am M ++ wO cL ol fo)).symm
        unfold LW
        rw [key]
        unfold wF at h2 ⊢
        simp only [List.append_assoc, List.nil_append] at h2 ⊢
        exact h2
end LX
