section A2
variable {t : Nat} {x x' y T z : Ob} {G : Gh}
theorem nar1 : vp_nar .boolean 1 = 1 := by decide
theorem nar0 : vp_nar .boolean 0 = 0 := by decide
theorem Sim.isIn (h : Sim t x y G) {k : Nat} (hk : k < 64) : x.2 7 (64 * t + k) = if gI G k = true then 1 else 0 := h.2.2.2.2.1 k hk
theorem isKey5_1 {k : Nat} (hk : k < 64) : fX5_isKey (nI k) = some 1 := by
  rw [fX5_isKey, if_neg (nI_pos (by omega)), if_neg (st64 hk)]
theorem Sim.holds (h : Sim t x y G) {k : Nat} (hk : k < 64) : fX3_holds (nI k) y = some (if gI G k = true then 1 else 0) := by
  have e1 : fX3_sizeOf (nI k) y = some (nI (gs G k)) := by
    have := rs_size h.2.2.2.1 (Bd_s hk); rw [enc_s] at this; exact this
  rw [fX3_holds, e1, Option.bind_some]
  have s2 := h.sz k
  cases hI : gI G k with
  | true =>
    have := (h.2.2.1 k).1 hI
    rw [if_neg (nI_nle (by omega) (by omega)), if_pos rfl]
  | false =>
    have := (h.2.2.1 k).2 hI
    rw [this, if_pos (by decide), if_neg (by decide)]
abbrev LC : List Nat := [3, 4, 5, 6, 7, 8]
set_option maxHeartbeats 1000000 in
theorem sim_leaf {n : Nat} (hn : n ≤ 8) (h1 : x.1 1 = nI n) (ht : t < n) (h : TR t x T y z G) {k : Nat} (hk : k < 64) (hI : gI G k = false) : ∃ (l : Option Nat) (x2 y2 : Ob), fX6_add (nI t) (nI k) x = fX6_add_J147 (nI t) (nI k) (nI (dep G l)) x2 ∧ fX3_lastOnWay (nI k) y = some (enc l) ∧ fX3_depthOf (enc l) y = some (nI (dep G l)) ∧ fX3_hangNew (nI k) (enc l) y = some y2 ∧ Sim t x2 y2 (gadd G k l) ∧ x2.2 8 t = nI (cnt (gI (gadd G k l)) 0 64) ∧ Fr [0, 16, 17] LC t x x2 ∧ x2.1 0 = 0 ∧ gI (gadd G k l) k = true := by
  have ht8 : t < 8 := by omega
  obtain ⟨a1, a2, a3, a4, a5, a6, a7⟩ := h
  have f0 : Fr [0, 16, 17] LC t x (ob_i x 0 0) := Fr.i _ _ _ _ (by decide)
  have s0 : Sim t (ob_i x 0 0) y G := a1.fr (cs := []) (is := [0]) (s := t) (Fr.i _ _ _ _ (by decide)) (by decide) (by decide) (by decide) (by decide) (by decide) (by decide)
  obtain ⟨l, x1, g1, g2, g3, g4, g5, g6, g7, g8⟩ := s0.goes ht8 a1.sz hk
  have s1 : Sim t x1 y G := s0.fr g6 (by decide) (by decide) (by decide) (by decide) (by decide) (by decide)
  have e0 : x1.1 0 = 0 := by rw [g6.1 0 (by decide)]; rfl
  have e8 : x1.2 8 t = nI (cnt (gI G) 0 64) := by rw [g6.2.1 8 (by decide)]; exact a5
  have hw2 := s1.1.add hk hI g7 g8
  obtain ⟨x2, b1, b2, b3, b4, b5⟩ := rm_leaf s1.1 s1.2.2.2.2 ht8 hk hI g8 (fun q => fX6_add_J147 (nI t) (nI k) (nI (dep G l)) q)
  obtain ⟨y2, c1, c2, c3⟩ := rs_hangNew s1.1 s1.2.1 s1.2.2.1 s1.2.2.2.1 hk hI g7 g8
  have hx0 : (ob_i x 0 0).1 1 = nI n := h1
  have hin : (ob_i x 0 0).2 7 (64 * t + k) = 0 := by
    have := s0.isIn hk; rw [hI, if_neg (by decide)] at this; exact this
  refine ⟨l, x2, y2, ?_, g2, g3, c1, ⟨hw2, GN.add s1.1 s1.2.1 g8, GS.add hw2, by rw [b4]; exact c2, b2⟩, ?_, ?_, ?_, ?_⟩
  · rw [fX6_add, px_let, isTree_1 hn hx0 ht, Option.bind_some, if_neg (by decide), isKey6_1 hk, Option.bind_some, if_neg (by decide), ix6 ht8 hk, if_pos hin, g1, Option.bind_some, px_let, px_let, px_let, i64, ix_nI (by omega) (by decide), px_let, ix_nI (by omega) (by decide), px_let, ix_nI (by omega) (by decide), px_let, ix_nI (by omega) (by decide), px_let, ix_nI ht8 (by decide), ix_nI ht8 (by decide), px_let, nar1]
    have e17 : ∀ X : Ob, X.1 = x1.1 → X.1 17 = enc l := fun X hX => by rw [hX, g5]
    have z8 : (ob_a (ob_a (ob_a (ob_a x1 7 (64 * t + k) 1) 5 (64 * t + k) (-1)) 6 (64 * t + k) (-1)) 4 (64 * t + k) (-1)).2 8 t = x1.2 8 t := by rw [ar_n _ _ _ (by decide), ar_n _ _ _ (by decide), ar_n _ _ _ (by decide), ar_n _ _ _ (by decide)]
    rw [z8, e17 (ob_a (ob_a (ob_a (ob_a (ob_a x1 7 (64 * t + k) 1) 5 (64 * t + k) (-1)) 6 (64 * t + k) (-1)) 4 (64 * t + k) (-1)) 8 t (x1.2 8 t + 1)) rfl, g4]
    simp only [px_let]
    exact b1
  · show _ = nI (cnt (aI (gI G) k) 0 64)
    rw [b3, e8, nI_1, cnt_add hk hI]
  · exact (f0.tr (g6.mono (by decide) (by decide))).tr (b5.mono (by decide) (by decide))
  · rw [b5.1 0 (by decide)]; exact e0
  · show aI (gI G) k k = true
    rw [aI, if_pos rfl]
abbrev AC : List Nat := [3, 4, 5, 6, 7, 8, 9, 11, 14]
set_option maxHeartbeats 1000000 in
/-- ADD, of every kind but BALANCE -/
theorem sim_add {n : Nat} (hn : n ≤ 8) (h1 : x.1 1 = nI n) (ht : t < n) (h : TR t x T y z G) {k : Nat} (hk : k < 64) (hI : gI G k = false) (h4 : ¬ T.1 0 = 4) : ∃ (r : Int32) (x' T' y' : Ob) (G' : Gh), fX6_add (nI t) (nI k) x = some (r, x') ∧ fX4_takeIn (nI k) T y = some (r, T', y') ∧ TR t x' T' y' z G' ∧ Fr [0, 15, 16, 17] AC t x x' ∧ x'.1 0 = 0 := by
  have ht8 : t < 8 := by omega
  obtain ⟨l, x2, y2, b1, b2, b3, b4, b5, b6, b7, b8, b9⟩ := sim_leaf hn h1 ht h hk hI
  obtain ⟨a1, a2, a3, a4, a5, a6, a7⟩ := h
  have k2 : x2.2 2 t = T.1 0 := by rw [b7.2.1 2 (by decide)]; exact a2
  have fin : ∀ (x4 y' : Ob) (G' : Gh), Sim t x4 y' G' → gI G' = gI (gadd G k l) → Fr [] TC t x2 x4 → TR t x4 T y' z G' ∧ Fr [0, 15, 16, 17] AC t x x4 ∧ x4.1 0 = 0 := by
    intro x4 y' G' c1 c2 c3
    refine ⟨⟨c1, ?_, ?_, ?_, ?_, ?_, a7⟩, (b7.mono (by decide) (by decide)).tr (c3.mono (by decide) (by decide)), by rw [c3.1 0 (by decide)]; exact b8⟩
    · rw [c3.2.1 2 (by decide)]; exact k2
    · rw [c3.2.1 10 (by decide), b7.2.1 10 (by decide)]; exact a3
    · rw [c3.2.1 11 (by decide), b7.2.1 11 (by decide)]; exact a4
    · rw [c3.2.1 8 (by decide), c2]; exact b6
    · obtain ⟨r, d1, d2, d3, d4⟩ := a6
      exact ⟨r, d1, d2, by rw [c3.2.1 12 (by decide), b7.2.1 12 (by decide)]; exact d3, by rw [c3.2.1 13 (by decide), b7.2.1 13 (by decide)]; exact d4⟩
  obtain ⟨x3, y3, G3, c1, c2, c3, c4, c5, c6⟩ := b5.act ht8 k2 b9
  have k3 : x3.2 2 t = T.1 0 := by rw [c5.2.1 2 (by decide)]; exact k2
  by_cases h5 : T.1 0 = 5
  · -- kind 5: the act does nothing, then it rises
    have e3 : fX6_acts (nI t) (nI k) x2 = some x2 := by
      rw [fX6_acts, ix_nI ht8 (by decide), k2, h5, if_neg (by decide), ix_nI ht8 (by decide), k2, h5, if_neg (by decide), fX6_acts_J52, ix_nI ht8 (by decide), k2, h5, if_neg (by decide)]
    obtain ⟨x4, y4, G4, d1, d2, d3, d4, d5, d6⟩ := b5.rise ht8 (by rw [k2, h5]) b9
    obtain ⟨f1, f2, f3⟩ := fin x4 y4 G4 d3 d4 d5
    refine ⟨nI (dep G l), x4, T, y4, G4, ?_, ?_, f1, f2, f3⟩
    · rw [b1, fX6_add_J147, fX6_actsAdded, e3, Option.bind_some, ix_nI ht8 (by decide), if_neg (by rw [k2]; exact h4), d1]; rfl
    · rw [fX4_takeIn, b2, Option.bind_some, b3, Option.bind_some, b4, Option.bind_some, if_neg h4, if_pos h5, d2]; rfl
  · obtain ⟨f1, f2, f3⟩ := fin x3 y3 G3 c3 c4 c5
    refine ⟨nI (dep G l), x3, T, y3, G3, ?_, ?_, f1, f2, f3⟩
    · rw [b1, fX6_add_J147, fX6_actsAdded, c1, Option.bind_some, ix_nI ht8 (by decide), if_neg (by rw [k3]; exact h4), L22_no ht8 (by rw [k3]; exact h5)]; rfl
    · rw [fX4_takeIn, b2, Option.bind_some, b3, Option.bind_some, b4, Option.bind_some, if_neg h4, if_neg h5, c2]; rfl
end A2
