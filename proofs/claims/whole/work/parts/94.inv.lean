/-- class and reference are in the same state -/
def Inv (gg : Nat → Option Nat) (X Z : Ob) (ts : List TD) (M : Ob) : Prop :=
  ts.length ≤ 8 ∧ M.1 1 = nI ts.length ∧ X.1 1 = nI ts.length ∧ (∀ i, i < 8 → gg i = (ts[i]?).map (fun d => d.1.1)) ∧ (∀ i d, ts[i]? = some d → ∃ G, TR i M d.2.1 d.2.2.1 d.2.2.2 G) ∧ (∀ i, ts.length ≤ i → i < 8 → Fresh i M) ∧ KeptR M X ∧ BI Z
section IV
variable {gg : Nat → Option Nat} {X Z X' Z' M M' : Ob} {ts : List TD}
theorem Inv.ref (h : Inv gg X Z ts M) (p : Int32) : (tref gg p = none ∧ (∀ v, fX6_isTree p (ob_i M 0 v) = some 0) ∧ fX6_isTree p M = some 0) ∨ ∃ i d, p = nI i ∧ ts[i]? = some d ∧ i < ts.length ∧ tref gg p = some d.1.1 := by
  obtain ⟨h1, h2, h3, h4, h5, h6, h7, h8⟩ := h
  by_cases p0 : p < 0
  · exact Or.inl ⟨by rw [tref, if_pos p0], fun v => by rw [fX6_isTree, if_pos p0], by rw [fX6_isTree, if_pos p0]⟩
  rcases pk_ix p (n := ts.length) (by omega) with e | e | ⟨j, e1, e2⟩
  · exact absurd e p0
  · refine Or.inl ⟨?_, fun v => ?_, ?_⟩
    · rw [tref, if_neg p0]
      rcases pk_ix p (n := 8) (by omega) with q | q | ⟨j, q1, q2⟩
      · exact absurd q p0
      · rw [if_pos q]
      · subst q2
        have : ts.length ≤ j := (nI_leI (by omega) (by omega)).mp e
        rw [if_neg (nI_ge q1 (by omega)), nI_clamp (by omega), h4 j q1, List.getElem?_eq_none this]; rfl
    · rw [fX6_isTree, if_neg p0, if_pos (by show M.1 1 ≤ p; rw [h2]; exact e)]
    · rw [fX6_isTree, if_neg p0, if_pos (by rw [h2]; exact e)]
  · subst e2
    refine Or.inr ⟨j, ts[j], rfl, List.getElem?_eq_getElem e1, e1, ?_⟩
    rw [tref, if_neg p0, if_neg (nI_ge (by omega) (by omega)), nI_clamp (by omega), h4 j (by omega), List.getElem?_eq_getElem e1]; rfl
theorem Inv.mv (h : Inv gg X Z ts M) (h1 : M'.1 1 = M.1 1) (h26 : M'.1 26 = M.1 26) (hc : ∀ c, c < 14 → M'.2 c = M.2 c) (h27 : M'.2 27 = M.2 27) : Inv gg X Z ts M' := by
  obtain ⟨a1, a2, a3, a4, a5, a6, ⟨κ, k1, k2, k3, k4⟩, a8⟩ := h
  refine ⟨a1, by rw [h1]; exact a2, a3, a4, fun i d hi => ?_, fun i h1 h2 => ?_, ⟨κ, k1, by rw [h26]; exact k2, k3, by rw [h27]; exact k4⟩, a8⟩
  · obtain ⟨G, hG⟩ := a5 i d hi
    exact ⟨G, hG.loc (fun c j hcj _ => by rw [hc c hcj])⟩
  · exact (a6 i h1 h2).loc (fun c j hcj _ => by rw [hc c hcj])
theorem Inv.m0 (h : Inv gg X Z ts M) (v : Int32) : Inv gg X Z ts (ob_i M 0 v) := h.mv rfl rfl (fun _ _ => rfl) rfl
theorem get_set {ts : List TD} {i : Nat} (hi : i < ts.length) (a : TD) (k : Nat) : (ts.set i a)[k]? = if k = i then some a else ts[k]? := by
  by_cases e : k = i
  · subst e; rw [if_pos rfl, List.getElem?_set_self hi]
  · rw [if_neg e, List.getElem?_set_ne (Ne.symm e)]
theorem Inv.upd (h : Inv gg X Z ts M) {i : Nat} {d d' : TD} (hi : ts[i]? = some d) (ha : d'.1 = d.1) {is cs : List Nat} (hf : Fr is cs i M M') (h1 : 1 ∉ is) (h26 : 26 ∉ is) (h27 : 27 ∉ cs) (hT : ∃ G, TR i M' d'.2.1 d'.2.2.1 d'.2.2.2 G) : Inv gg X Z (ts.set i d') M' := by
  obtain ⟨a1, a2, a3, a4, a5, a6, ⟨κ, k1, k2, k3, k4⟩, a8⟩ := h
  have hlt := (List.getElem?_eq_some_iff.mp hi).1
  refine ⟨by rw [List.length_set]; exact a1, by rw [List.length_set, hf.1 1 h1]; exact a2, by rw [List.length_set]; exact a3, fun k hk => ?_, fun k e hk => ?_, fun k q1 q2 => ?_, ⟨κ, k1, by rw [hf.1 26 h26]; exact k2, k3, by rw [hf.2.1 27 h27]; exact k4⟩, a8⟩
  · rw [get_set hlt]
    by_cases e : k = i
    · rw [if_pos e, a4 k hk, e, hi]; show some d.1.1 = some d'.1.1; rw [ha]
    · rw [if_neg e]; exact a4 k hk
  · rw [get_set hlt] at hk
    by_cases q : k = i
    · rw [if_pos q] at hk; cases hk; rw [q]; exact hT
    · rw [if_neg q] at hk
      obtain ⟨G, hG⟩ := a5 k e hk
      exact ⟨G, hG.fr2 hf q⟩
  · rw [List.length_set] at q1
    exact (a6 k q1 q2).loc (fun c j hc hj => hf.2.2 c j hc (fun z => by have := inT_dis hj z; omega))
theorem Inv.upd2 (h : Inv gg X Z ts M) {i j : Nat} {d1 d2 d1' d2' : TD} (hi : ts[i]? = some d1) (hj : ts[j]? = some d2) (hij : i ≠ j) (ha1 : d1'.1 = d1.1) (ha2 : d2'.1 = d2.1) {is cs : List Nat} (hf : Fr2 is cs i j M M') (h1 : 1 ∉ is) (h26 : 26 ∉ is) (h27 : 27 ∉ cs) (hT1 : ∃ G, TR i M' d1'.2.1 d1'.2.2.1 d1'.2.2.2 G) (hT2 : ∃ G, TR j M' d2'.2.1 d2'.2.2.1 d2'.2.2.2 G) : Inv gg X Z ((ts.set i d1').set j d2') M' := by
  obtain ⟨a1, a2, a3, a4, a5, a6, ⟨κ, k1, k2, k3, k4⟩, a8⟩ := h
  have hlt := (List.getElem?_eq_some_iff.mp hi).1
  have hlt2 := (List.getElem?_eq_some_iff.mp hj).1
  have gs2 : ∀ k, ((ts.set i d1').set j d2')[k]? = if k = j then some d2' else if k = i then some d1' else ts[k]? := fun k => by
    rw [get_set (by rw [List.length_set]; exact hlt2), get_set hlt]
  refine ⟨by rw [List.length_set, List.length_set]; exact a1, by rw [List.length_set, List.length_set, hf.1 1 h1]; exact a2, by rw [List.length_set, List.length_set]; exact a3, fun k hk => ?_, fun k e hk => ?_, fun k q1 q2 => ?_, ⟨κ, k1, by rw [hf.1 26 h26]; exact k2, k3, by rw [hf.2.1 27 h27]; exact k4⟩, a8⟩
  · rw [gs2]
    by_cases e2 : k = j
    · rw [if_pos e2, a4 k hk, e2, hj]; show some d2.1.1 = some d2'.1.1; rw [ha2]
    · rw [if_neg e2]
      by_cases e : k = i
      · rw [if_pos e, a4 k hk, e, hi]; show some d1.1.1 = some d1'.1.1; rw [ha1]
      · rw [if_neg e]; exact a4 k hk
  · rw [gs2] at hk
    by_cases q2 : k = j
    · rw [if_pos q2] at hk; cases hk; rw [q2]; exact hT2
    · rw [if_neg q2] at hk
      by_cases q : k = i
      · rw [if_pos q] at hk; cases hk; rw [q]; exact hT1
      · rw [if_neg q] at hk
        obtain ⟨G, hG⟩ := a5 k e hk
        exact ⟨G, hG.fr3 hf q q2⟩
  · rw [List.length_set, List.length_set] at q1
    exact (a6 k q1 q2).loc (fun c x hc hx => hf.2.2 c x hc (fun z => by have := inT_dis hx z; omega) (fun z => by have := inT_dis hx z; omega))
/-- a tree more -/
theorem Inv.more (h : Inv gg X Z ts M) (hn : ts.length < 8) {ts' : List TD} {dn : TD} (hlen : ts'.length = ts.length) (hat : ∀ k d, ts'[k]? = some d → (∃ d0, ts[k]? = some d0 ∧ d.1 = d0.1) ∧ ∃ G, TR k M' d.2.1 d.2.2.1 d.2.2.2 G) (hnew : ∃ G, TR ts.length M' dn.2.1 dn.2.2.1 dn.2.2.2 G) (h1 : M'.1 1 = nI (ts.length + 1)) (h26 : M'.1 26 = M.1 26) (h27 : M'.2 27 = M.2 27) (hfr : ∀ k, ts.length < k → k < 8 → Fresh k M') : Inv (va_up gg (X.1 1).toNatClampNeg (some dn.1.1)) (ob_i X 1 (X.1 1 + 1)) Z (ts' ++ [dn]) M' := by
  obtain ⟨a1, a2, a3, a4, a5, a6, ⟨κ, k1, k2, k3, k4⟩, a8⟩ := h
  have el : (ts' ++ [dn]).length = ts.length + 1 := by rw [List.length_append, hlen]; rfl
  have ec : (X.1 1).toNatClampNeg = ts.length := by rw [a3, nI_clamp (by omega)]
  have ga : ∀ k, (ts' ++ [dn])[k]? = if k < ts.length then ts'[k]? else if k = ts.length then some dn else none := fun k => by
    by_cases q : k < ts.length
    · rw [if_pos q, List.getElem?_append_left (by omega)]
    · rw [if_neg q, List.getElem?_append_right (by omega), hlen]
      by_cases w : k = ts.length
      · rw [if_pos w, w, Nat.sub_self]; rfl
      · rw [if_neg w]
        exact List.getElem?_eq_none (by show 1 ≤ k - ts.length; omega)
  refine ⟨by rw [el]; omega, by rw [el]; exact h1, ?_, fun k hk => ?_, fun k e hk => ?_, fun k q1 q2 => ?_, ⟨κ, k1, by rw [h26]; exact k2, k3, by rw [h27]; exact k4⟩, a8⟩
  · rw [el]; show X.1 1 + 1 = _; rw [a3, nI_1]
  · rw [ga, ec, vup_at]
    by_cases q : k = ts.length
    · rw [if_pos q, if_neg (by omega), if_pos q]; rfl
    · rw [if_neg q]
      by_cases w : k < ts.length
      · rw [if_pos w, a4 k hk, List.getElem?_eq_getElem w]
        have w' : k < ts'.length := by omega
        obtain ⟨⟨d0, e0, e1⟩, -⟩ := hat k ts'[k] (List.getElem?_eq_getElem w')
        rw [List.getElem?_eq_getElem w] at e0
        cases e0
        rw [List.getElem?_eq_getElem w']
        show some (ts[k].1.1) = some (ts'[k].1.1)
        rw [e1]
      · rw [if_neg w, if_neg q, a4 k hk, List.getElem?_eq_none (by omega)]
  · rw [ga] at hk
    by_cases w : k < ts.length
    · rw [if_pos w] at hk; exact (hat k e hk).2
    · rw [if_neg w] at hk
      by_cases q : k = ts.length
      · rw [if_pos q] at hk; cases hk; rw [q]; exact hnew
      · rw [if_neg q] at hk; cases hk
  · rw [el] at q1; exact hfr k (by omega) q2
/-- TREE: a new one -/
theorem ref_tree {κ : Nat} (h : Inv gg X Z ts M) (hn : ts.length < 8) (hκ : κ ≤ 5) {f1 : Nat → Int32} (hf1 : ∀ j, j < 64 → f1 j = -1) (a : TA) : ∃ M', fX6_tree (nI κ) M = some (nI ts.length, M') ∧ Inv (va_up gg (X.1 1).toNatClampNeg (some a.1)) (ob_i X 1 (X.1 1 + 1)) Z (ts ++ [(a, ob_i ob0 0 (nI κ), shp0 f1, ob0)]) M' := by
  have h2 := h.2.1
  have fr := h.2.2.2.2.2.1 ts.length (Nat.le_refl _) hn
  obtain ⟨r7, r8, r9, r10, r11, r12⟩ := fr
  have e1 : (ob_i M 0 0).1 1 = nI ts.length := h2
  have g : ∀ d i, (ob_i (ob_a (ob_a (ob_i M 0 0) 2 ts.length (nI κ)) 3 ts.length (-1)) 1 (nI (ts.length + 1))).2 d i = if d = 3 ∧ i = ts.length then -1 else if d = 2 ∧ i = ts.length then nI κ else M.2 d i := fun d i => by
    show (ob_a (ob_a (ob_i M 0 0) 2 ts.length (nI κ)) 3 ts.length (-1)).2 d i = _
    rw [ga, ga]; rfl
  refine ⟨ob_i (ob_a (ob_a (ob_i M 0 0) 2 ts.length (nI κ)) 3 ts.length (-1)) 1 (nI (ts.length + 1)), ?_, ?_⟩
  · rw [fX6_tree, px_let, if_neg (nI_pos (by omega)), if_neg (show ¬ (5 : Int32) < nI κ from nI_nlt (a := 5) hκ (by omega)), e1, if_neg (fun e => by have := (nI_eq (b := 8) (by omega) (by omega)).mp e; omega), fX6_newTree, e1, ix_nI hn (by decide), px_let]
    show Option.bind (ix ((ob_i M 0 0).1 1) 8 _) _ = _
    rw [e1, ix_nI hn (by decide), px_let, px_let, Option.bind_some]
    show some ((M.1 1 + 1) - 1, ob_i _ 1 (M.1 1 + 1)) = _
    rw [h2, nI_1, nI_pred]
  · refine h.more hn rfl (fun k d hk => ⟨⟨d, hk, rfl⟩, ?_⟩) ?_ rfl rfl rfl (fun k q1 q2 => ?_)
    · obtain ⟨G, hG⟩ := h.2.2.2.2.1 k d hk
      have hkl := (List.getElem?_eq_some_iff.mp hk).1
      refine ⟨G, hG.loc (fun c j hc hj => ?_)⟩
      rw [g, if_neg (fun q => ?_), if_neg (fun q => ?_)]
      · have := inT_dis (r := ts.length) hj (by rw [q.1, q.2]; exact inT1 (by decide) (by decide)); omega
      · have := inT_dis (r := ts.length) hj (by rw [q.1, q.2]; exact inT1 (by decide) (by decide)); omega
    · have S : Sim ts.length (ob_i (ob_a (ob_a (ob_i M 0 0) 2 ts.length (nI κ)) 3 ts.length (-1)) 1 (nI (ts.length + 1))) (shp0 f1) gE := by
        refine ⟨gE_w, gE_n, gE_s, ?_, ⟨fun k hk => ?_, fun k hk => (by cases hk), fun k hk => (by cases hk), fun k hk => (by cases hk), ?_⟩⟩
        · rw [g, if_neg (by omega), if_neg (by omega), r9]; exact rs_shp0 hf1
        · show (ob_i (ob_a (ob_a (ob_i M 0 0) 2 ts.length (nI κ)) 3 ts.length (-1)) 1 (nI (ts.length + 1))).2 7 _ = _
          rw [g, if_neg (by omega), if_neg (by omega), r7 k hk]; rfl
        · rw [g, if_pos ⟨rfl, rfl⟩]; rfl
      refine ⟨gE, S, ?_, ?_, ?_, ?_, ⟨0, by omega, rfl, ?_, fun i hi => by omega⟩, ⟨κ, hκ, rfl⟩, ⟨0, by omega, rfl⟩, fun _ => rfl⟩
      · rw [g, if_neg (by omega), if_pos ⟨rfl, rfl⟩]; rfl
      · rw [g, if_neg (by omega), if_neg (by omega), r10]; rfl
      · rw [g, if_neg (by omega), if_neg (by omega), r11]; rfl
      · rw [g, if_neg (by omega), if_neg (by omega), r8]
        show (0 : Int32) = nI (cnt (gI gE) 0 64)
        rw [show cnt (gI gE) 0 64 = 0 from cnt_f]; rfl
      · rw [g, if_neg (by omega), if_neg (by omega), r12]; rfl
    · refine (h.2.2.2.2.2.1 k (by omega) q2).loc (fun c j hc hj => ?_)
      rw [g, if_neg (fun q => ?_), if_neg (fun q => ?_)]
      · have := inT_dis (r := ts.length) hj (by rw [q.1, q.2]; exact inT1 (by decide) (by decide)); omega
      · have := inT_dis (r := ts.length) hj (by rw [q.1, q.2]; exact inT1 (by decide) (by decide)); omega
end IV
