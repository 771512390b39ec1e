/-- rows filled with one value -/
theorem fill_L (nn : Nat) (hnn : nn < 2 ^ 30) (v : Int32) : ∀ (m k n : Nat) (f : Nat → Int32), m + k = nn → m < n → (∀ j, j < k → f j = v) → ∃ f', fJ7_fill_53178_L5 nn n v (nI k) (nI nn) f = some f' ∧ ∀ j, j < nn → f' j = v := by
  intro m
  induction m with
  | zero =>
    intro k n f h1 h2 h3
    obtain ⟨n, rfl⟩ := Nat.exists_eq_succ_of_ne_zero (by omega : n ≠ 0)
    exact ⟨f, by rw [fJ7_fill_53178_L5, if_pos (nI_le (by omega) (by omega))], fun j hj => h3 j (by omega)⟩
  | succ m ih =>
    intro k n f h1 h2 h3
    obtain ⟨n, rfl⟩ := Nat.exists_eq_succ_of_ne_zero (by omega : n ≠ 0)
    obtain ⟨f', g1, g2⟩ := ih (k + 1) n (upd f k v) (by omega) (by omega) (fun j hj => by
      rw [upd_at]
      by_cases e : j = k
      · rw [if_pos e]
      · rw [if_neg e]; exact h3 j (by omega))
    exact ⟨f', by rw [fJ7_fill_53178_L5, if_neg (nI_ge (by omega) (by omega)), ix_nI (by omega) (by omega), px_let, px_let, nI_1, g1], g2⟩
theorem fill_ok (nn : Nat) (hnn : nn < 4999) (v : Int32) (f : Nat → Int32) : ∃ f', fJ7_fill_53178 nn v f = some f' ∧ ∀ j, j < nn → f' j = v := by
  obtain ⟨f', g1, g2⟩ := fill_L nn (by omega) v nn 0 FU f (by omega) (by show nn < 5000; omega) (fun j hj => by omega)
  exact ⟨f', by rw [fJ7_fill_53178, px_let]; exact g1, g2⟩
/-- a place for a tree that isn't there yet -/
def Fresh (t : Nat) (x : Ob) : Prop := (∀ k, k < 64 → x.2 7 (64 * t + k) = 0) ∧ x.2 8 t = 0 ∧ x.2 9 t = 0 ∧ x.2 10 t = 0 ∧ x.2 11 t = 0 ∧ x.2 12 t = 0
theorem Fresh.loc {t : Nat} {x x' : Ob} (h : Fresh t x) (hl : ∀ c i, c < 14 → inT c t i → x'.2 c i = x.2 c i) : Fresh t x' := by
  obtain ⟨a1, a2, a3, a4, a5, a6⟩ := h
  have e1 : ∀ c, c < 14 → ¬ (4 ≤ c ∧ c ≤ 7) → c ≠ 13 → x'.2 c t = x.2 c t := fun c h1 h2 h3 => hl c t h1 (inT1 h2 h3)
  exact ⟨fun k hk => by rw [hl 7 _ (by decide) (inT4 (by decide) hk)]; exact a1 k hk, by rw [e1 8 (by decide) (by decide) (by decide)]; exact a2, by rw [e1 9 (by decide) (by decide) (by decide)]; exact a3, by rw [e1 10 (by decide) (by decide) (by decide)]; exact a4, by rw [e1 11 (by decide) (by decide) (by decide)]; exact a5, by rw [e1 12 (by decide) (by decide) (by decide)]; exact a6⟩
theorem rs_shp0 {f1 : Nat → Int32} (hf : ∀ j, j < 64 → f1 j = -1) : RepS (shp0 f1) (fun _ => none) (fun _ => none) (fun _ => none) (fun _ => 0) none 0 := by
  refine ⟨fun k hk => ?_, fun k hk => ?_, fun k hk => ?_, fun k hk => ?_, rfl, rfl⟩
  · exact hf k hk
  · exact hf k hk
  · exact hf k hk
  · rfl
abbrev SC2 : List Nat := [2, 3, 4, 5, 6, 7, 8, 11, 18]
section SPL
variable {t : Nat} {x y T z : Ob} {G : Gh} {c : Nat}
theorem sim_begin {n : Nat} {x T y : Ob} {G : Gh} (h : Sim n x y G) (κ : Nat) (hκ : κ ≤ 5) (hT : T.1 0 = nI κ) : fX4_beginMost T y = some (ob_i T 4 (if nI κ = 4 then nI (cnt (gI G) 0 64) else 0)) := by
  rw [fX4_beginMost, hT]
  by_cases q : nI κ = 4
  · rw [if_pos q, if_pos q, h.held, Option.bind_some, fX4_beginMost_J20, px_let]
  · rw [if_neg q, if_neg q, fX4_beginMost_J20, px_let]
set_option maxHeartbeats 4000000 in
/-- SPLIT -/
theorem sim_split {n : Nat} (hn : n < 8) (h1 : x.1 1 = nI n) (ht : t < n) (h : TR t x T y z G) (hfr : Fresh n x) (hc : c < 64) {f1 : Nat → Int32} (hf1 : ∀ j, j < 64 → f1 j = -1) :
    ∃ (x' y' yn T' Tn : Ob), fX6_split (nI t) (nI c) x = some (nI n, x') ∧ fX3_cutAt (nI c) y (shp0 f1) = some (y', yn) ∧ fX4_beginMost T y' = some T' ∧ fX4_beginMost (ob_i ob0 0 (T.1 0)) yn = some Tn ∧ TR t x' T' y' z (gcut1 G c) ∧ TR n x' Tn yn ob0 (gcut2 G c) ∧ x'.1 1 = nI (n + 1) ∧ x'.1 0 = 0 ∧ Fr2 [0, 1] SC2 t n x x' := by
  have ht8 : t < 8 := by omega
  have htn : t ≠ n := by omega
  obtain ⟨⟨hw, hN, hs, hr, hm⟩, a2, a3, a4, a5, a6, ⟨κ, κ1, κ2⟩, ⟨m, m1, m2⟩, a9⟩ := h
  obtain ⟨r7, r8, r9, r10, r11, r12⟩ := hfr
  obtain ⟨y', yn, c1, c2, c3⟩ := rs_cut hw hN hs hc hr (rs_shp0 hf1)
  -- a new tree
  have fr3 : Fr2 [0, 1] SC2 t n x (ob_i (ob_a (ob_a (ob_i x 0 0) 2 n (x.2 2 t)) 3 n (-1)) 1 (nI (n + 1))) := (((Fr2.i _ _ _ _ _ (by decide)).tr (Fr2.a _ _ _ (by decide) (Or.inr (Or.inr (inT1 (by decide) (by decide)))))).tr (Fr2.a _ _ _ (by decide) (Or.inr (Or.inr (inT1 (by decide) (by decide)))))).tr (Fr2.i _ _ _ _ _ (by decide))
  have g3 : ∀ d i, (ob_i (ob_a (ob_a (ob_i x 0 0) 2 n (x.2 2 t)) 3 n (-1)) 1 (nI (n + 1))).2 d i = if d = 3 ∧ i = n then -1 else if d = 2 ∧ i = n then x.2 2 t else x.2 d i := by
    intro d i
    show (ob_a (ob_a (ob_i x 0 0) 2 n (x.2 2 t)) 3 n (-1)).2 d i = _
    rw [ga, ga]; rfl
  have i3a : (ob_i (ob_a (ob_a (ob_i x 0 0) 2 n (x.2 2 t)) 3 n (-1)) 1 (nI (n + 1))).1 1 = nI (n + 1) := rfl
  have i3b : (ob_i (ob_a (ob_a (ob_i x 0 0) 2 n (x.2 2 t)) 3 n (-1)) 1 (nI (n + 1))).1 0 = 0 := rfl
  have unf : fX6_split (nI t) (nI c) x = fX6_split_L45 FU (nI t) (nI c) (nI n) (nI 0) (ob_i (ob_a (ob_a (ob_i x 0 0) 2 n (x.2 2 t)) 3 n (-1)) 1 (nI (n + 1))) := by
    have e1 : (ob_i x 0 0).1 1 = nI n := h1
    have e2 : (ob_i x 0 0).2 2 t = x.2 2 t := rfl
    have e3 : (ob_a (ob_i x 0 0) 2 n (x.2 2 t)).1 1 = nI n := h1
    have e4 : (ob_a (ob_a (ob_i x 0 0) 2 n (x.2 2 t)) 3 n (-1)).1 1 + 1 = nI (n + 1) := by
      show x.1 1 + 1 = _; rw [h1, nI_1]
    rw [fX6_split, px_let, isTree_1 (by omega) e1 ht, Option.bind_some, if_neg (by decide), isKey6_1 hc, Option.bind_some, if_neg (by decide), if_neg (by rw [e1]; intro q; have := (nI_eq (a := n) (b := 8) (by omega) (by decide)).mp q; omega), ix_nI ht8 (by decide), e2, fX6_newTree, e1, ix_nI hn (by decide), px_let, e3, ix_nI hn (by decide), px_let, px_let, e4, i3a, nI_pred, Option.bind_some, px_let]; rfl
  generalize ob_i (ob_a (ob_a (ob_i x 0 0) 2 n (x.2 2 t)) 3 n (-1)) 1 (nI (n + 1)) = x3 at *
  have hm3 : RepM x3 t (gL G) (gR G) (gU G) (gr G) (gI G) := by
    obtain ⟨b1, b2, b3, b4, b5⟩ := hm
    refine ⟨?_, ?_, ?_, ?_, by rw [g3, if_neg (by omega), if_neg (by omega)]; exact b5⟩
    · intro k hk; show x3.2 7 _ = _; rw [g3, if_neg (by omega), if_neg (by omega)]; exact b1 k hk
    · intro k hk; show x3.2 5 _ = _; rw [g3, if_neg (by omega), if_neg (by omega)]; exact b2 k hk
    · intro k hk; show x3.2 6 _ = _; rw [g3, if_neg (by omega), if_neg (by omega)]; exact b3 k hk
    · intro k hk; show x3.2 4 _ = _; rw [g3, if_neg (by omega), if_neg (by omega)]; exact b4 k hk
  obtain ⟨x4, d1, d2, d3, d4⟩ := sp_draft (s := n) (v3 := nI n) hw ht8 hc 64 0 FU x3 (by omega) (by decide) hm3 (fun k hk => by omega)
  -- the root is none
  have g5 : ∀ d i, (ob_a x4 3 t (-1)).2 d i = if d = 3 ∧ i = t then -1 else x4.2 d i := fun d i => ga _ _ _ _ _ _
  have f5 : Fr2 [] SC2 t n x4 (ob_a x4 3 t (-1)) := Fr2.a _ _ _ (by decide) (Or.inr (Or.inl (inT1 (by decide) (by decide))))
  have unf5 : fX6_split_J92 (nI t) (nI c) (nI n) x4 = fX6_split_L102 FU (nI t) (nI c) (nI n) (nI 0) (ob_a x4 3 t (-1)) := by
    rw [fX6_split_J92, ix_nI ht8 (by decide), px_let]; rfl
  generalize ob_a x4 3 t (-1) = x5 at *
  obtain ⟨x6, k1, k2, k3, k4, k5⟩ := sp_move (G := G) (c := c) htn ht8 hn hc 64 0 FU x5 (by omega) (by decide) (fun k q1 q2 => by
    refine ⟨?_, ?_⟩
    · rw [g5, if_neg (by omega), d3 7 (by decide)]; exact hm3.1 k q2
    · rw [g5, if_neg (by omega), d3 7 (by decide), g3, if_neg (by omega), if_neg (by omega)]; exact r7 k q2) (fun b k hk => by omega) (fun b k hk => by omega)
  have g7 : ∀ d i, (ob_a x6 8 t 0).2 d i = if d = 8 ∧ i = t then 0 else x6.2 d i := fun d i => ga _ _ _ _ _ _
  have f7 : Fr2 [] SC2 t n x6 (ob_a x6 8 t 0) := Fr2.a _ _ _ (by decide) (Or.inr (Or.inl (inT1 (by decide) (by decide))))
  have unf7 : fX6_split_J198 (nI t) (nI c) (nI n) x6 = fX6_split_L208 FU (nI t) (nI c) (nI n) (nI 0) (ob_a x6 8 t 0) := by
    rw [fX6_split_J198, ix_nI ht8 (by decide), px_let]; rfl
  generalize ob_a x6 8 t 0 = x7 at *
  have root7 : ∀ b, x7.2 3 (tib t n b) = -1 := by
    intro b
    rw [g7, if_neg (by omega), k3 3 (by decide), g5]
    cases b with
    | true => rw [if_pos ⟨rfl, rfl⟩]
    | false => rw [if_neg (by show ¬ (3 = 3 ∧ n = t); omega), d3 3 (by decide)]; show x3.2 3 n = -1; rw [g3, if_pos ⟨rfl, rfl⟩]
  have many7 : ∀ b, x7.2 8 (tib t n b) = 0 := by
    intro b
    rw [g7]
    cases b with
    | true => rw [if_pos ⟨rfl, rfl⟩]
    | false => rw [if_neg (by show ¬ (8 = 8 ∧ n = t); omega), k3 8 (by decide), g5, if_neg (by omega), d3 8 (by decide)]; show x3.2 8 n = 0; rw [g3, if_neg (by omega), if_neg (by omega)]; exact r8
  obtain ⟨x8, l1, l2, l3, l4⟩ := sp_link (G := G) (c := c) hw htn ht8 hn hc 64 0 FU x7 (by omega) (by decide) (fun k hk => by rw [g7, if_neg (by omega), k3 18 (by decide), g5, if_neg (by omega)]; exact d4 k hk) (fun b => by
    refine ⟨many7 b, fun k hk => by omega, fun e he => ?_, fun e he => ?_, root7 b, fun k hk => by rw [g7, if_neg (by omega)]; exact k4 b k hk⟩
    · rw [g7, if_neg (by omega)]; exact (k5 b e (hw.1 e (cIb_in he).1).1 he).1
    · rw [g7, if_neg (by omega)]; exact (k5 b e (hw.1 e (cIb_in he).1).1 he).2)
  -- the other arrays
  have e8 : ∀ d i, d ∉ [3, 4, 5, 6, 7, 8, 18] → x8.2 d i = x3.2 d i := by
    intro d i hd
    simp at hd
    rw [l3 d (by simp; omega), g7, if_neg (by omega), k3 d (by simp; omega), g5, if_neg (by omega), d3 d (by omega)]
  have kt : x8.2 2 t = nI κ := by rw [e8 2 t (by decide), g3, if_neg (by omega), if_neg (by omega), a2, κ2]
  have kn : x8.2 2 n = nI κ := by rw [e8 2 n (by decide), g3, if_neg (by omega), if_pos ⟨rfl, rfl⟩, a2, κ2]
  obtain ⟨p1, p2, p3, p4, p5, p6⟩ := l4 true
  obtain ⟨q1, q2, q3, q4, q5, q6⟩ := l4 false
  have p1 : x8.2 8 t = nI (cnt (cI1 G c) 0 64) := p1
  have q1 : x8.2 8 n = nI (cnt (cI2 G c) 0 64) := q1
  have unf8 : fX6_split_J358 (nI t) (nI n) x8 = some (nI n, ob_a (ob_a x8 11 t (if nI κ = 4 then nI (cnt (cI1 G c) 0 64) else 0)) 11 n (if nI κ = 4 then nI (cnt (cI2 G c) 0 64) else 0)) := by
    have e2 : ∀ v, (ob_a x8 11 t v).2 2 n = nI κ := fun v => by rw [ar_n _ _ _ (by decide)]; exact kn
    have e8' : ∀ v, (ob_a x8 11 t v).2 8 n = nI (cnt (cI2 G c) 0 64) := fun v => by rw [ar_n _ _ _ (by decide)]; exact q1
    rw [fX6_split_J358, ix_nI ht8 (by decide), kt]
    by_cases w : nI κ = 4
    · rw [if_pos w, ix_nI ht8 (by decide), p1, fX6_split_J383, ix_nI ht8 (by decide), px_let, ix_nI hn (by decide), e2, if_pos w, ix_nI hn (by decide), e8', fX6_split_J409, ix_nI hn (by decide), px_let, if_pos w, if_pos w]
    · rw [if_neg w, fX6_split_J383, ix_nI ht8 (by decide), px_let, ix_nI hn (by decide), e2, if_neg w, fX6_split_J409, ix_nI hn (by decide), px_let, if_neg w, if_neg w]
  have f9 : Fr2 [] SC2 t n x8 (ob_a (ob_a x8 11 t (if nI κ = 4 then nI (cnt (cI1 G c) 0 64) else 0)) 11 n (if nI κ = 4 then nI (cnt (cI2 G c) 0 64) else 0)) := (Fr2.a _ _ _ (by decide) (Or.inr (Or.inl (inT1 (by decide) (by decide))))).tr (Fr2.a _ _ _ (by decide) (Or.inr (Or.inr (inT1 (by decide) (by decide)))))
  have g9 : ∀ d i, d ≠ 11 → (ob_a (ob_a x8 11 t (if nI κ = 4 then nI (cnt (cI1 G c) 0 64) else 0)) 11 n (if nI κ = 4 then nI (cnt (cI2 G c) 0 64) else 0)).2 d i = x8.2 d i := fun d i hd => by rw [ar_n _ _ _ hd, ar_n _ _ _ hd]
  have g9t : (ob_a (ob_a x8 11 t (if nI κ = 4 then nI (cnt (cI1 G c) 0 64) else 0)) 11 n (if nI κ = 4 then nI (cnt (cI2 G c) 0 64) else 0)).2 11 t = if nI κ = 4 then nI (cnt (cI1 G c) 0 64) else 0 := by rw [ga, if_neg (by omega), ga, if_pos ⟨rfl, rfl⟩]
  have g9n : (ob_a (ob_a x8 11 t (if nI κ = 4 then nI (cnt (cI1 G c) 0 64) else 0)) 11 n (if nI κ = 4 then nI (cnt (cI2 G c) 0 64) else 0)).2 11 n = if nI κ = 4 then nI (cnt (cI2 G c) 0 64) else 0 := by rw [ga, if_pos ⟨rfl, rfl⟩]
  generalize ob_a (ob_a x8 11 t (if nI κ = 4 then nI (cnt (cI1 G c) 0 64) else 0)) 11 n (if nI κ = 4 then nI (cnt (cI2 G c) 0 64) else 0) = x9 at *
  have FF : Fr2 [0, 1] SC2 t n x x9 := (((((fr3.tr (d2.mono (by decide) (by decide))).tr (f5.mono (by decide) (fun _ h => h))).tr (k2.mono (by decide) (by decide))).tr (f7.mono (by decide) (fun _ h => h))).tr (l2.mono (by decide) (by decide))).tr (f9.mono (by decide) (fun _ h => h))
  have S1 : Sim t x9 y' (gcut1 G c) := by
    refine ⟨hw.cut1 hc, GN.cut1 hw hc, GS.cut1 hw hc, ?_, ⟨?_, ?_, ?_, ?_, ?_⟩⟩
    · rw [g9 9 t (by decide), e8 9 t (by decide), g3, if_neg (by omega), if_neg (by omega)]; exact c2
    · intro k hk; show x9.2 7 _ = _; rw [g9 7 _ (by decide)]; exact p6 k hk
    · intro k hk; show x9.2 5 _ = _; rw [g9 5 _ (by decide)]; exact p3 k hk
    · intro k hk; show x9.2 6 _ = _; rw [g9 6 _ (by decide)]; exact p4 k hk
    · intro k hk; show x9.2 4 _ = _; rw [g9 4 _ (by decide)]; exact p2 k (hw.1 k (cI1_i.mp hk).1).1 hk
    · rw [g9 3 t (by decide)]; exact p5
  have S2 : Sim n x9 yn (gcut2 G c) := by
    refine ⟨hw.cut2 hc, GN.cut2 hw hc, GS.cut2 hw hc, ?_, ⟨?_, ?_, ?_, ?_, ?_⟩⟩
    · rw [g9 9 n (by decide), e8 9 n (by decide), g3, if_neg (by omega), if_neg (by omega), r9]; exact c3
    · intro k hk; show x9.2 7 _ = _; rw [g9 7 _ (by decide)]; exact q6 k hk
    · intro k hk; show x9.2 5 _ = _; rw [g9 5 _ (by decide)]; exact q3 k hk
    · intro k hk; show x9.2 6 _ = _; rw [g9 6 _ (by decide)]; exact q4 k hk
    · intro k hk; show x9.2 4 _ = _; rw [g9 4 _ (by decide)]; exact q2 k (hw.1 k (cI2_i.mp hk).1).1 hk
    · rw [g9 3 n (by decide)]; exact q5
  have B1 := sim_begin S1 κ κ1 κ2
  have B2 := sim_begin (T := ob_i ob0 0 (T.1 0)) S2 κ κ1 κ2
  have rd : ∀ d i, d ∉ [2, 3, 4, 5, 6, 7, 8, 11, 18] → x9.2 d i = x.2 d i := by
    intro d i hd
    simp at hd
    rw [g9 d i (by omega), e8 d i (by simp; omega), g3, if_neg (by omega), if_neg (by omega)]
  have mo : ∀ I : Nat → Bool, ∃ m : Nat, m ≤ 64 ∧ (if nI κ = 4 then nI (cnt I 0 64) else 0) = nI m := by
    intro I
    by_cases w : nI κ = 4
    · exact ⟨_, cnt_le I 0 64, by rw [if_pos w]⟩
    · exact ⟨0, by omega, by rw [if_neg w]; rfl⟩
  refine ⟨x9, y', yn, _, _, ?_, c1, B1, B2, ⟨S1, ?_, ?_, ?_, ?_, ?_, ⟨κ, κ1, κ2⟩, mo _, ?_⟩, ⟨S2, ?_, ?_, ?_, ?_, ?_, ⟨κ, κ1, κ2⟩, mo _, ?_⟩, ?_, ?_, FF⟩
  · rw [unf, d1, unf5, k1, unf7, l1, unf8]
  · rw [g9 2 t (by decide), kt]; exact κ2.symm
  · rw [rd 10 t (by decide)]; exact a3
  · exact g9t
  · rw [g9 8 t (by decide)]; exact p1
  · obtain ⟨r, z1, z2, z3, z4⟩ := a6
    exact ⟨r, z1, z2, by rw [rd 12 t (by decide)]; exact z3, fun i hi => by obtain ⟨k, v1, v2, v3⟩ := z4 i hi; exact ⟨k, v1, v2, by rw [rd 13 _ (by decide)]; exact v3⟩⟩
  · intro q
    show (if nI κ = 4 then nI (cnt (gI (gcut1 G c)) 0 64) else 0) = 0
    rw [if_neg (fun w => q (by show T.1 0 = 4; rw [κ2, w]))]
  · rw [g9 2 n (by decide), kn]; exact κ2.symm
  · rw [rd 10 n (by decide), r10]; rfl
  · exact g9n
  · rw [g9 8 n (by decide)]; exact q1
  · exact ⟨0, by omega, rfl, by rw [rd 12 n (by decide), r12]; rfl, fun i hi => by omega⟩
  · intro q
    show (if nI κ = 4 then nI (cnt (gI (gcut2 G c)) 0 64) else 0) = 0
    rw [if_neg (fun w => q (by show T.1 0 = 4; rw [κ2, w]))]
  · rw [f9.1 1 (by simp), l2.1 1 (by simp), f7.1 1 (by simp), k2.1 1 (by simp), f5.1 1 (by simp), d2.1 1 (by simp), i3a]
  · rw [f9.1 0 (by simp), l2.1 0 (by simp), f7.1 0 (by simp), k2.1 0 (by simp), f5.1 0 (by simp), d2.1 0 (by simp), i3b]
end SPL
