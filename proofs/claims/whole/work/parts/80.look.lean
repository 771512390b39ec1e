theorem ge64 {j : Nat} (h : 64 ≤ j) (h2 : j < 2 ^ 31) : (64 : Int32) ≤ nI j := nI_le (a := 64) h h2
theorem nlt64 {b : Nat} (h : b ≤ 64) : ¬ (64 : Int32) < nI b := nI_nlt (a := 64) (b := b) h (by omega)
theorem nge6 {b : Nat} (h : b < 6) : ¬ (6 : Int32) ≤ nI b := nI_ge (b := 6) h (by omega)
theorem le1 {b : Nat} (h : b ≤ 1) : nI b ≤ (1 : Int32) := nI_le (b := 1) h (by omega)
theorem nle1 {b : Nat} (h : 1 < b) (h2 : b < 2 ^ 31) : ¬ nI b ≤ (1 : Int32) := nI_ge (a := 1) h h2
theorem le0 {b : Nat} (h : b = 0) : nI b ≤ (0 : Int32) := by rw [h]; decide
theorem ne20 {b : Nat} (h : b ≠ 20) (h2 : b < 2 ^ 31) : ¬ nI b = (20 : Int32) := fun e => h ((nI_eq (b := 20) h2 (by omega)).mp e)
theorem lt20 {b : Nat} (h : b < 20) : nI b < (20 : Int32) := nI_lt (b := 20) h (by omega)
section LK
variable {t : Nat} {x x' y T z : Ob} {G : Gh}
/-- the depth of a key, 0 where it is not -/
def dpv (G : Gh) (k : Nat) : Nat := if gI G k = true then dep G (some k) else 0
theorem dpv_le (hw : GW G) (k : Nat) : dpv G k ≤ 64 := by
  unfold dpv
  by_cases h : gI G k = true
  · rw [if_pos h]; exact dep_64 hw h
  · rw [if_neg h]; omega
theorem Sim.dep3 (h : Sim t x y G) {k : Nat} (hk : k < 64) : fX3_depthOf (nI k) y = some (nI (dpv G k)) := by
  unfold dpv
  cases q : gI G k with
  | true => rw [if_pos rfl]; exact rs_dep h.1 h.2.1 h.2.2.1 h.2.2.2.1 q h.sz
  | false =>
    have hh : fX3_holds (nI k) y = some 0 := by rw [h.holds hk, q]; rfl
    rw [if_neg (by decide), fX3_depthOf, hh, Option.bind_some, if_pos rfl, fX3_depthOf_J15, fu_s, fX3_depthOf_L16, if_neg (by decide), if_pos rfl]; rfl
theorem Sim.dep6 (h : Sim t x y G) (ht : t < 8) {k : Nat} (hk : gI G k = true) : fX6_depthOf (nI t) (nI k) x = some (nI (dpv G k)) := by
  unfold dpv; rw [if_pos hk]; exact rm_dep h.1 h.2.2.2.2 ht hk
theorem sim_clear {n : Nat} (hn : n ≤ 8) (h1 : x.1 1 = nI n) (ht : t < n) (h : TR t x T y z G) : ∃ (v : Int32) (x' z' : Ob), fX6_clear (nI t) x = some (v, x') ∧ fX5_clear_T (nI t) z = some (v, z') ∧ TR t x' T y z' G ∧ Fr [0] [12] t x x' ∧ x'.1 0 = 0 := by
  obtain ⟨a1, a2, a3, a4, a5, a6, a7⟩ := h
  obtain ⟨r, b1, b2, b3, b4⟩ := a6
  have h1' : (ob_i x 0 0).1 1 = nI n := h1
  refine ⟨nI r, ob_a (ob_i x 0 0) 12 t 0, ob_i z 1 0, ?_, ?_, ⟨?_, ?_, ?_, ?_, ?_, ⟨0, by omega, rfl, ?_, fun i hi => by omega⟩, a7⟩, ?_, rfl⟩
  · rw [fX6_clear, px_let, isTree_1 hn h1' ht, Option.bind_some, if_neg (by decide), ix_nI (by omega) (by decide), px_let, ix_nI (by omega) (by decide), px_let]
    show some (x.2 12 t, _) = _
    rw [b3]
  · rw [fX5_clear_T, fX2_wipe, px_let, px_let, Option.bind_some, b2]
  · exact (a1.fr (x' := ob_i x 0 0) (is := [0]) (cs := []) (s := t) (Fr.i _ _ _ _ (by decide)) (by decide) (by decide) (by decide) (by decide) (by decide) (by decide)).fr (is := []) (cs := [12]) (s := t) (Fr.a _ _ _ (by decide) (inT1 (by decide) (by decide))) (by decide) (by decide) (by decide) (by decide) (by decide) (by decide)
  · rw [ar_n _ _ _ (by decide)]; exact a2
  · rw [ar_n _ _ _ (by decide)]; exact a3
  · rw [ar_n _ _ _ (by decide)]; exact a4
  · rw [ar_n _ _ _ (by decide)]; exact a5
  · rw [ar_a, upd_at, if_pos rfl]; rfl
  · exact (Fr.i _ _ _ _ (by decide)).tr (Fr.a _ _ _ (by decide) (inT1 (by decide) (by decide)))
theorem nI_nlt4 {w : Nat} (hw : w ≤ 4) : ¬ nI 4 < nI w := fun e => by rw [nI_ltI (by omega) (by omega)] at e; omega
/-- LOOK at a key that is in the tree -/
theorem sim_look {n : Nat} (hn : n ≤ 8) (h1 : x.1 1 = nI n) (ht : t < n) (h : TR t x T y z G) {k w : Nat} (hk : gI G k = true) (hw : w ≤ 4) : ∃ (v : Int32), fX6_look (nI t) (nI k) (nI w) x = some (v, ob_i x 0 0) ∧ fX5_look_T (nI t) (nI k) (nI w) y = some v := by
  have s := h.1
  have hk64 := s.k64 hk
  have ht8 : t < 8 := by omega
  have s' : Sim t (ob_i x 0 0) y G := s.fr (is := [0]) (cs := []) (s := t) (Fr.i _ _ _ _ (by decide)) (by decide) (by decide) (by decide) (by decide) (by decide) (by decide)
  have e1 : fX6_look (nI t) (nI k) (nI w) x = fX6_look_J44 (nI t) (nI k) (nI w) 0 x := by
    rw [fX6_look, isTree_1 hn h1 ht, Option.bind_some, if_neg (by decide), isKey6_1 hk64, Option.bind_some, if_neg (by decide), if_neg (nI_pos (by omega)), if_neg (show ¬ (4 : Int32) < nI w from nI_nlt4 hw), ix6 ht8 hk64, s.isIn hk64, if_pos hk, if_neg (by decide)]
  have e2 : fX5_look_T (nI t) (nI k) (nI w) y = (if nI w = (0) then Option.bind (fX3_depthOf (nI k) y) (fun q74 => some q74) else (if nI w = (1) then Option.bind (fX3_upOf (nI k) y) (fun q84 => some q84) else (if nI w = (2) then Option.bind (fX3_leftOf (nI k) y) (fun q94 => some q94) else (if nI w = (3) then Option.bind (fX3_rightOf (nI k) y) (fun q104 => some q104) else (if nI w = (4) then Option.bind (fX3_sizeOf (nI k) y) (fun q114 => some q114) else none))))) := by
    rw [fX5_look_T, s.holds hk64, if_pos hk, Option.bind_some, if_neg (by decide)]
  rw [e1, e2, fX6_look_J44, px_let, if_pos (by show (0 : Int32) ≤ 0; decide), px_let]
  have hi : ix ((64) * nI t + nI k) 512 = fun (K : Nat → Option (Int32 × Ob)) => K (64 * t + k) := by funext K; exact ix6 ht8 hk64
  rcases (by omega : w = 0 ∨ w = 1 ∨ w = 2 ∨ w = 3 ∨ w = 4) with q | q | q | q | q
  · subst q
    exact ⟨nI (dpv G k), by rw [if_pos (by decide), s'.dep6 ht8 hk]; rfl, by rw [if_pos (by decide), s.dep3 hk64]; rfl⟩
  · subst q
    exact ⟨enc (gU G k), by rw [if_neg (by decide), if_pos (by decide), ix6 ht8 hk64, s'.above hk], by rw [if_neg (by decide), if_pos (by decide), s.upOf hk]; rfl⟩
  · subst q
    exact ⟨enc (gL G k), by rw [if_neg (by decide), if_neg (by decide), if_pos (by decide), ix6 ht8 hk64, s'.left6 hk], by rw [if_neg (by decide), if_neg (by decide), if_pos (by decide), s.left3 hk64]; rfl⟩
  · subst q
    exact ⟨enc (gR G k), by rw [if_neg (by decide), if_neg (by decide), if_neg (by decide), if_pos (by decide), ix6 ht8 hk64, s'.right6 hk], by rw [if_neg (by decide), if_neg (by decide), if_neg (by decide), if_pos (by decide), s.right3 hk64]; rfl⟩
  · subst q
    exact ⟨nI (gs G k), by rw [if_neg (by decide), if_neg (by decide), if_neg (by decide), if_neg (by decide), s'.size6 ht8 hk]; rfl, by rw [if_neg (by decide), if_neg (by decide), if_neg (by decide), if_neg (by decide), if_pos (by decide), s.size3 hk64]; rfl⟩
/-- LOOK that is refused -/
theorem look_thr (p1 p2 p3 : Int32) (x : Ob) (h : fX6_look p1 p2 p3 x = fX6_look_J43 p1 p2 p3 x) : fX6_look p1 p2 p3 x = some (0, ob_i x 0 1) := by
  rw [h, fX6_look_J43, fX6_look_J44, px_let, if_neg (by show ¬ (1 : Int32) ≤ 0; decide)]
theorem sim_deepL (h : Sim t x y G) (ht : t < 8) : ∀ (m j n1 n2 d : Nat), m + j = 64 → m < n1 → m < n2 → d ≤ 64 → ∃ v, fX6_deepest_L4 n1 (nI t) (nI d) (nI j) x = some v ∧ fX3_greatestDepth_L4 n2 (nI d) (nI j) y = some v := by
  intro m
  induction m with
  | zero =>
    intro j n1 n2 d h1 h2 h3 h4
    obtain ⟨n1, rfl⟩ := Nat.exists_eq_succ_of_ne_zero (by omega : n1 ≠ 0)
    obtain ⟨n2, rfl⟩ := Nat.exists_eq_succ_of_ne_zero (by omega : n2 ≠ 0)
    exact ⟨nI d, by rw [fX6_deepest_L4, if_pos (ge64 (by omega) (by omega))], by rw [fX3_greatestDepth_L4, if_pos (ge64 (by omega) (by omega))]⟩
  | succ m ih =>
    intro j n1 n2 d h1 h2 h3 h4
    obtain ⟨n1, rfl⟩ := Nat.exists_eq_succ_of_ne_zero (by omega : n1 ≠ 0)
    obtain ⟨n2, rfl⟩ := Nat.exists_eq_succ_of_ne_zero (by omega : n2 ≠ 0)
    have hj : j < 64 := by omega
    have hv := dpv_le h.1 j
    obtain ⟨v, b1, b2⟩ := ih (j + 1) n1 n2 (if d < dpv G j then dpv G j else d) (by omega) (by omega) (by omega) (by split <;> omega)
    refine ⟨v, ?_, ?_⟩
    · have e : fX6_deepest_J34 (fX6_deepest_L4 n1) (nI t) (nI d) (nI j) (nI (dpv G j)) x = some v := by
        rw [fX6_deepest_J34]
        by_cases q : d < dpv G j
        · rw [if_pos q] at b1
          rw [if_neg (nI_ge q (by omega)), fX6_deepest_J48, px_let, nI_1, b1]
        · rw [if_neg q] at b1
          rw [if_pos (nI_le (by omega) (by omega)), fX6_deepest_J48, px_let, nI_1, b1]
      rw [fX6_deepest_L4, if_neg (st64 hj), ix6 ht hj, h.isIn hj]
      by_cases q : gI G j = true
      · rw [if_pos q, if_neg (by decide), h.dep6 ht q, Option.bind_some, e]
      · rw [if_neg q, if_pos rfl]
        unfold dpv at e; rw [if_neg q] at e; exact e
    · rw [fX3_greatestDepth_L4, if_neg (st64 hj), h.dep3 hj, Option.bind_some, px_let, px_let, nI_1, ← b2]
      by_cases q : d < dpv G j
      · rw [if_pos q, if_pos (nI_lt q (by omega))]
      · rw [if_neg q, if_neg (nI_nlt (by omega) (by omega))]
theorem sim_halves {k6 : Int32 → Int32 → Int32 → Ob → Option Int32} {k3 : Int32 → Int32 → Ob → Option Int32} {x y : Ob} {v1 vj : Int32} : ∀ (m s n1 n2 p : Nat), s ≤ m → s ≤ 64 → m < n1 → m < n2 → ∃ p', fX6_potential_L36 k6 n1 v1 (nI p) vj (nI s) x = fX6_potential_J54 k6 v1 (nI p') vj x ∧ fX3_potential_L18 k3 n2 (nI p) vj (nI (s / 2)) y = fX3_potential_J32 k3 (nI p') vj y := by
  intro m
  induction m with
  | zero =>
    intro s n1 n2 p h1 h64 h2 h3
    obtain ⟨n1, rfl⟩ := Nat.exists_eq_succ_of_ne_zero (by omega : n1 ≠ 0)
    obtain ⟨n2, rfl⟩ := Nat.exists_eq_succ_of_ne_zero (by omega : n2 ≠ 0)
    exact ⟨p, by rw [fX6_potential_L36, if_pos (le1 (by omega))], by rw [fX3_potential_L18, if_pos (le0 (by omega))]⟩
  | succ m ih =>
    intro s n1 n2 p h1 h64 h2 h3
    obtain ⟨n1, rfl⟩ := Nat.exists_eq_succ_of_ne_zero (by omega : n1 ≠ 0)
    obtain ⟨n2, rfl⟩ := Nat.exists_eq_succ_of_ne_zero (by omega : n2 ≠ 0)
    by_cases q : s ≤ 1
    · exact ⟨p, by rw [fX6_potential_L36, if_pos (le1 q)], by rw [fX3_potential_L18, if_pos (le0 (by omega))]⟩
    · obtain ⟨p', b1, b2⟩ := ih (s / 2) n1 n2 (p + 1) (by omega) (by omega) (by omega) (by omega)
      refine ⟨p', ?_, ?_⟩
      · rw [fX6_potential_L36, if_neg (nle1 (by omega) (by omega)), px_let, px_let, nI_1, show nI s / 2 = nI (s / 2) from pk_div (d := 2) (by omega) (by omega) (by omega), b1]
      · rw [fX3_potential_L18, if_neg (nI_nle (by omega) (by omega)), px_let, px_let, nI_1, show nI (s / 2) / 2 = nI (s / 2 / 2) from pk_div (d := 2) (by omega) (by omega) (by omega), b2]
theorem sim_potL (h : Sim t x y G) (ht : t < 8) : ∀ (m j n1 n2 p : Nat), m + j = 64 → m < n1 → m < n2 → ∃ v, fX6_potential_L4 n1 (nI t) (nI p) (nI j) x = some v ∧ fX3_potential_L4 n2 (nI p) (nI j) y = some v := by
  intro m
  induction m with
  | zero =>
    intro j n1 n2 d h1 h2 h3
    obtain ⟨n1, rfl⟩ := Nat.exists_eq_succ_of_ne_zero (by omega : n1 ≠ 0)
    obtain ⟨n2, rfl⟩ := Nat.exists_eq_succ_of_ne_zero (by omega : n2 ≠ 0)
    exact ⟨nI d, by rw [fX6_potential_L4, if_pos (ge64 (by omega) (by omega))], by rw [fX3_potential_L4, if_pos (ge64 (by omega) (by omega))]⟩
  | succ m ih =>
    intro j n1 n2 d h1 h2 h3
    obtain ⟨n1, rfl⟩ := Nat.exists_eq_succ_of_ne_zero (by omega : n1 ≠ 0)
    obtain ⟨n2, rfl⟩ := Nat.exists_eq_succ_of_ne_zero (by omega : n2 ≠ 0)
    have hj : j < 64 := by omega
    have hs := h.sz j
    obtain ⟨p', c1, c2⟩ := sim_halves (k6 := fX6_potential_L4 n1) (k3 := fX3_potential_L4 n2) (x := x) (y := y) (v1 := nI t) (vj := nI j) 64 (gs G j) FU FU d hs hs fu64 fu64
    obtain ⟨v, b1, b2⟩ := ih (j + 1) n1 n2 p' (by omega) (by omega) (by omega)
    refine ⟨v, ?_, ?_⟩
    · rw [fX6_potential_L4, if_neg (st64 hj), ix6 ht hj, h.isIn hj]
      by_cases q : gI G j = true
      · rw [if_pos q, if_neg (by decide), h.size6 ht q, Option.bind_some, fX6_potential_J34, c1, fX6_potential_J54, px_let, nI_1, b1]
      · have z0 : gs G j = 0 := (h.2.2.1 j).2 (by simpa using q)
        rw [z0] at c1
        rw [if_neg q, if_pos rfl, fX6_potential_J34]
        show fX6_potential_L36 _ FU (nI t) (nI d) (nI j) (nI 0) x = _
        rw [c1, fX6_potential_J54, px_let, nI_1, b1]
    · rw [fX3_potential_L4, if_neg (st64 hj), h.size3 hj, Option.bind_some, px_let, show nI (gs G j) / 2 = nI (gs G j / 2) from pk_div (d := 2) (by omega) (by omega) (by omega), c2, fX3_potential_J32, px_let, nI_1, b2]
/-- COUNT -/
theorem sim_count {n : Nat} (hn : n ≤ 8) (h1 : x.1 1 = nI n) (ht : t < n) (h : TR t x T y z G) (w : Int32) : ∃ (v : Int32), fX6_count (nI t) w x = some (v, ob_i x 0 0) ∧ fX5_count_T (nI t) w T y z = some v := by
  have s := h.1
  have ht8 : t < 8 := by omega
  have h1' : (ob_i x 0 0).1 1 = nI n := h1
  have s' : Sim t (ob_i x 0 0) y G := s.fr (is := [0]) (cs := []) (s := t) (Fr.i _ _ _ _ (by decide)) (by decide) (by decide) (by decide) (by decide) (by decide) (by decide)
  obtain ⟨a1, a2, a3, a4, a5, ⟨r, r1, r2, r3, r4⟩, a7⟩ := h
  rw [fX6_count, px_let, isTree_1 hn h1' ht, Option.bind_some, if_neg (by decide), fX5_count_T]
  by_cases q0 : w = 0
  · exact ⟨T.1 0, by rw [if_pos q0, ix_nI ht8 (by decide)]; show some (x.2 2 t, _) = _; rw [a2], by rw [if_pos q0]⟩
  rw [if_neg q0, if_neg q0]
  by_cases q1 : w = 1
  · exact ⟨nI (cnt (gI G) 0 64), by rw [if_pos q1, ix_nI ht8 (by decide)]; show some (x.2 8 t, _) = _; rw [a5], by rw [if_pos q1, s.held]; rfl⟩
  rw [if_neg q1, if_neg q1]
  by_cases q2 : w = 2
  · exact ⟨enc (gr G), by rw [if_pos q2, ix_nI ht8 (by decide)]; show some (x.2 3 t, _) = _; rw [s.2.2.2.2.2.2.2.2], by rw [if_pos q2, s.2.2.2.1.2.2.2.2.1]⟩
  rw [if_neg q2, if_neg q2]
  by_cases q3 : w = 3
  · obtain ⟨v, b1, b2⟩ := sim_deepL s' ht8 64 0 FU FU 0 (by omega) fu64 fu64 (by omega)
    exact ⟨v, by rw [if_pos q3, fX6_deepest]; show Option.bind (fX6_deepest_L4 FU (nI t) (nI 0) (nI 0) _) _ = _; rw [b1]; rfl, by rw [if_pos q3, fX3_greatestDepth]; show Option.bind (fX3_greatestDepth_L4 FU (nI 0) (nI 0) _) _ = _; rw [b2]; rfl⟩
  rw [if_neg q3, if_neg q3]
  by_cases q4 : w = 4
  · exact ⟨x.2 9 t, by rw [if_pos q4, ix_nI ht8 (by decide)]; rfl, by rw [if_pos q4, s.2.2.2.1.2.2.2.2.2]⟩
  rw [if_neg q4, if_neg q4]
  by_cases q5 : w = 5
  · exact ⟨T.1 3, by rw [if_pos q5, ix_nI ht8 (by decide)]; show some (x.2 10 t, _) = _; rw [a3], by rw [if_pos q5]⟩
  rw [if_neg q5, if_neg q5]
  by_cases q6 : w = 6
  · exact ⟨nI r, by rw [if_pos q6, ix_nI ht8 (by decide)]; show some (x.2 12 t, _) = _; rw [r3], by rw [if_pos q6, r2]⟩
  rw [if_neg q6, if_neg q6]
  by_cases q7 : w = 7
  · obtain ⟨v, b1, b2⟩ := sim_potL s' ht8 64 0 FU FU 0 (by omega) fu64 fu64
    exact ⟨v, by rw [if_pos q7, fX6_potential]; show Option.bind (fX6_potential_L4 FU (nI t) (nI 0) (nI 0) _) _ = _; rw [b1]; rfl, by rw [if_pos q7, fX3_potential]; show Option.bind (fX3_potential_L4 FU (nI 0) (nI 0) _) _ = _; rw [b2]; rfl⟩
  rw [if_neg q7, if_neg q7]
  by_cases q8 : w = 8
  · exact ⟨T.1 4, by rw [if_pos q8, ix_nI ht8 (by decide)]; show some (x.2 11 t, _) = _; rw [a4], by rw [if_pos q8]⟩
  rw [if_neg q8, if_neg q8]
  exact ⟨-1, rfl, rfl⟩
/-- the kept ones, on both sides -/
def KeptR (x w : Ob) : Prop := ∃ κ : Nat, κ ≤ 20 ∧ x.1 26 = nI κ ∧ w.1 3 = nI κ ∧ ∀ i, i < 64 * κ → x.2 27 i = w.2 2 i
theorem RepM.o27 {L R U : Nat → Option Nat} {rt : Option Nat} {I : Nat → Bool} (h : RepM x t L R U rt I) (i : Nat) (v : Int32) : RepM (ob_a x 27 i v) t L R U rt I := by
  obtain ⟨b1, b2, b3, b4, b5⟩ := h
  refine ⟨fun k hk => ?_, fun k hk => ?_, fun k hk => ?_, fun k hk => ?_, ?_⟩
  · rw [sl_n _ _ _ _ (by decide)]; exact b1 k hk
  · rw [sl_n _ _ _ _ (by decide)]; exact b2 k hk
  · rw [sl_n _ _ _ _ (by decide)]; exact b3 k hk
  · rw [sl_n _ _ _ _ (by decide)]; exact b4 k hk
  · rw [ar_n _ _ _ (by decide)]; exact b5
theorem sim_keepL (h : Sim t x y G) (ht : t < 8) {κ : Nat} (hκ : κ < 20) : ∀ (m j n1 n2 : Nat) (x w : Ob), m + j = 64 → m < n1 → m < n2 → RepM x t (gL G) (gR G) (gU G) (gr G) (gI G) → x.1 26 = nI κ → w.1 3 = nI κ → (∀ i, i < 64 * κ + j → x.2 27 i = w.2 2 i) →
    ∃ x' w', fX6_keep_L26 n1 (nI t) (nI j) x = fX6_keep_J76 x' ∧ fX5_keep_T_L23 n2 (nI j) y w = fX5_keep_T_J59 y w' ∧ (∀ i, i < 64 * κ + 64 → x'.2 27 i = w'.2 2 i) ∧ x'.1 = x.1 ∧ w'.1 = w.1 ∧ (∀ c, c ≠ 27 → x'.2 c = x.2 c) ∧ (∀ c, c ≠ 2 → w'.2 c = w.2 c) := by
  intro m
  induction m with
  | zero =>
    intro j n1 n2 x w h1 h2 h3 hr e1 e2 e3
    obtain ⟨n1, rfl⟩ := Nat.exists_eq_succ_of_ne_zero (by omega : n1 ≠ 0)
    obtain ⟨n2, rfl⟩ := Nat.exists_eq_succ_of_ne_zero (by omega : n2 ≠ 0)
    exact ⟨x, w, by rw [fX6_keep_L26, if_pos (ge64 (by omega) (by omega))], by rw [fX5_keep_T_L23, if_pos (ge64 (by omega) (by omega))], fun i hi => e3 i (by omega), rfl, rfl, fun _ _ => rfl, fun _ _ => rfl⟩
  | succ m ih =>
    intro j n1 n2 x w h1 h2 h3 hr e1 e2 e3
    obtain ⟨n1, rfl⟩ := Nat.exists_eq_succ_of_ne_zero (by omega : n1 ≠ 0)
    obtain ⟨n2, rfl⟩ := Nat.exists_eq_succ_of_ne_zero (by omega : n2 ≠ 0)
    have hj : j < 64 := by omega
    obtain ⟨x', w', b1, b2, b3, b4, b5, b6, b7⟩ := ih (j + 1) n1 n2 (ob_a x 27 (64 * κ + j) (nI (dpv G j))) (ob_f w 2 (upd (w.2 2) (64 * κ + j) (nI (dpv G j)))) (by omega) (by omega) (by omega) (hr.o27 _ _) e1 e2 (fun i hi => by
      rw [ar_a]
      show upd (x.2 27) (64 * κ + j) _ i = upd (w.2 2) (64 * κ + j) _ i
      rw [upd_at, upd_at]
      by_cases q : i = 64 * κ + j
      · rw [if_pos q, if_pos q]
      · rw [if_neg q, if_neg q]; exact e3 i (by omega))
    have is1 : x.2 7 (64 * t + j) = if gI G j = true then 1 else 0 := hr.1 j hj
    have ref : fX6_keep_J69 (fX6_keep_L26 n1) (nI t) (nI j) (64 * nI κ + nI j) (nI (dpv G j)) x = fX6_keep_J76 x' := by
      rw [fX6_keep_J69, i64, ix_nI (by omega) (by decide), px_let, px_let, nI_1, b1]
    refine ⟨x', w', ?_, ?_, b3, b4, b5, fun c hc => by rw [b6 c hc, ar_n _ _ _ hc], fun c hc => by rw [b7 c hc]; show va_up w.2 2 _ c = _; rw [vu_ne hc]⟩
    · rw [fX6_keep_L26, if_neg (st64 hj), ix6 ht hj, is1, e1]
      by_cases q : gI G j = true
      · rw [if_pos q, if_neg (by decide)]
        have d6 : fX6_depthOf (nI t) (nI j) x = some (nI (dpv G j)) := by unfold dpv; rw [if_pos q]; exact rm_dep h.1 hr ht q
        rw [d6, Option.bind_some, ref]
      · rw [if_neg q, if_pos rfl]
        unfold dpv at ref; rw [if_neg q] at ref; exact ref
    · rw [fX5_keep_T_L23, if_neg (st64 hj), h.dep3 hj, Option.bind_some, e2, show nI κ * 64 + nI j = nI (64 * κ + j) by rw [show (64 : Int32) = nI 64 from rfl, pk_mul, nI_add, Nat.mul_comm], put_in (by omega) (by decide), Option.bind_some, px_let, px_let, nI_1, b2]
/-- KEEP -/
theorem sim_keep {n : Nat} {w : Ob} (hn : n ≤ 8) (h1 : x.1 1 = nI n) (ht : t < n) (h : TR t x T y z G) (hK : KeptR x w) : ∃ (v : Int32) (x' w' : Ob), fX6_keep (nI t) x = some (v, x') ∧ fX5_keep_T (nI t) y w = some (v, w') ∧ KeptR x' w' ∧ (∀ i, i ∉ [0, 26] → x'.1 i = x.1 i) ∧ (∀ c, c ≠ 27 → x'.2 c = x.2 c) ∧ (∀ i, i ≠ 3 → w'.1 i = w.1 i) ∧ (∀ c, c ≠ 2 → w'.2 c = w.2 c) := by
  obtain ⟨κ, k1, k2, k3, k4⟩ := hK
  have h1' : (ob_i x 0 0).1 1 = nI n := h1
  have k2' : (ob_i x 0 0).1 26 = nI κ := k2
  have ht8 : t < 8 := by omega
  by_cases q : κ = 20
  · refine ⟨-1, ob_i x 0 0, w, ?_, ?_, ⟨κ, k1, k2, k3, k4⟩, fun i hi => ?_, fun _ _ => rfl, fun _ _ => rfl, fun _ _ => rfl⟩
    · rw [fX6_keep, px_let, isTree_1 hn h1' ht, Option.bind_some, if_neg (by decide), k2', q, if_pos (by decide)]
    · rw [fX5_keep_T, k3, q, if_neg (by decide)]
    · show va_up x.1 0 0 i = _; rw [vu_ne (fun e => hi (by rw [e]; decide))]
  · have s' : Sim t (ob_i x 0 0) y G := h.1.fr (is := [0]) (cs := []) (s := t) (Fr.i _ _ _ _ (by decide)) (by decide) (by decide) (by decide) (by decide) (by decide) (by decide)
    obtain ⟨x', w', b1, b2, b3, b4, b5, b6, b7⟩ := sim_keepL (κ := κ) s' ht8 (by omega) 64 0 FU FU (ob_i x 0 0) w (by omega) fu64 fu64 s'.2.2.2.2 k2' k3 k4
    have e1 : x'.1 26 = nI κ := by rw [b4]; exact k2
    have e2 : w'.1 3 = nI κ := by rw [b5]; exact k3
    refine ⟨nI κ, ob_i x' 26 (nI (κ + 1)), ob_i w' 3 (nI (κ + 1)), ?_, ?_, ⟨κ + 1, by omega, rfl, rfl, fun i hi => b3 i (by omega)⟩, fun i hi => ?_, fun c hc => (b6 c hc).trans rfl, fun i hi => ?_, fun c hc => b7 c hc⟩
    · rw [fX6_keep, px_let, isTree_1 hn h1' ht, Option.bind_some, if_neg (by decide), k2', if_neg (ne20 q (by omega))]
      show fX6_keep_L26 FU (nI t) (nI 0) _ = _
      rw [b1, fX6_keep_J76, px_let, e1, nI_1]
      show some (nI (κ + 1) - 1, _) = _
      rw [nI_pred]
    · rw [fX5_keep_T, k3, if_pos (lt20 (by omega))]
      show fX5_keep_T_L23 FU (nI 0) y w = _
      rw [b2, fX5_keep_T_J59, px_let, e2, nI_1]
      show some (nI (κ + 1) - 1, _) = _
      rw [nI_pred]
    · show va_up x'.1 26 _ i = _
      rw [vu_ne (fun e => hi (by rw [e]; decide)), b4]
      show va_up x.1 0 0 i = _; rw [vu_ne (fun e => hi (by rw [e]; decide))]
    · show va_up w'.1 3 _ i = _
      rw [vu_ne hi, b5]
/-- KEPT -/
theorem sim_kept {w : Ob} (hK : KeptR x w) (p1 p2 : Int32) : ∃ (v : Int32), fX6_kept p1 p2 x = some (v, ob_i x 0 0) ∧ fX5_kept_F p1 p2 w = some v := by
  obtain ⟨κ, k1, k2, k3, k4⟩ := hK
  have k2' : (ob_i x 0 0).1 26 = nI κ := k2
  rcases pk_ix p1 (n := κ) (by omega) with q | q | ⟨j, q1, q2⟩
  · exact ⟨-1, by rw [fX6_kept, px_let, if_pos q], by rw [fX5_kept_F, if_pos q]⟩
  · by_cases q0 : p1 < 0
    · exact ⟨-1, by rw [fX6_kept, px_let, if_pos q0], by rw [fX5_kept_F, if_pos q0]⟩
    · exact ⟨-1, by rw [fX6_kept, px_let, if_neg q0, k2', if_pos q], by rw [fX5_kept_F, if_neg q0, k3, if_pos q]⟩
  · subst q2
    have g0 : ¬ nI j < 0 := nI_pos (by omega)
    have g1 : ¬ nI κ ≤ nI j := nI_ge q1 (by omega)
    rcases pk_ix p2 (n := 64) (by omega) with q | q | ⟨k, q3, q4⟩
    · exact ⟨-1, by rw [fX6_kept, px_let, if_neg g0, k2', if_neg g1, fX6_isKey, if_pos q]; rfl, by rw [fX5_kept_F, if_neg g0, k3, if_neg g1, fX5_isKey, if_pos q]; rfl⟩
    · have q : (64 : Int32) ≤ p2 := q
      by_cases q0 : p2 < 0
      · exact ⟨-1, by rw [fX6_kept, px_let, if_neg g0, k2', if_neg g1, fX6_isKey, if_pos q0]; rfl, by rw [fX5_kept_F, if_neg g0, k3, if_neg g1, fX5_isKey, if_pos q0]; rfl⟩
      · exact ⟨-1, by rw [fX6_kept, px_let, if_neg g0, k2', if_neg g1, fX6_isKey, if_neg q0, if_pos q]; rfl, by rw [fX5_kept_F, if_neg g0, k3, if_neg g1, fX5_isKey, if_neg q0, if_pos q]; rfl⟩
    · subst q4
      refine ⟨w.2 2 (64 * j + k), ?_, ?_⟩
      · rw [fX6_kept, px_let, if_neg g0, k2', if_neg g1, isKey6_1 q3, Option.bind_some, if_neg (by decide), i64, ix_nI (by omega) (by decide)]
        show some (x.2 27 _, _) = _
        rw [k4 (64 * j + k) (by omega)]
      · rw [fX5_kept_F, if_neg g0, k3, if_neg g1, isKey5_1 q3, Option.bind_some, if_neg (by decide), show nI j * 64 + nI k = nI (64 * j + k) by rw [show (64 : Int32) = nI 64 from rfl, pk_mul, nI_add, Nat.mul_comm], at_in (by omega) (by decide)]; rfl
end LK
