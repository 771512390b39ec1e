section R3
variable {t : Nat} {x x' y T z : Ob} {G : Gh}
abbrev RC : List Nat := [3, 4, 5, 6, 7, 8, 9]
set_option maxHeartbeats 1000000 in
/-- REMOVE of a key that is in, up to BALANCE's own end -/
theorem sim_remF {n : Nat} (hn : n ≤ 8) (h1 : x.1 1 = nI n) (ht : t < n) (h : TR t x T y z G) {k : Nat} (hk : gI G k = true) : ∃ (c : Nat) (x5 y5 : Ob) (G5 : Gh), fX6_remove (nI t) (nI k) x = fX6_remove_J155 (nI t) (nI c) x5 ∧
    fX4_giveUp (nI k) T y = (if T.1 0 = 4 then Option.bind (fX3_keysHeld y5) (fun q73 => (if 2 * T.1 4 ≤ 3 * q73 then some (nI c, T, y5) else Option.bind (fX4_evenOut (y5.1 5) T y5) (fun q94 => some (nI c, q94.1, q94.2)))) else some (nI c, T, y5)) ∧ TR t x5 T y5 z G5 ∧ Fr [0, 16, 17] RC t x x5 ∧ x5.1 0 = 0 := by
  have ht8 : t < 8 := by omega
  obtain ⟨a1, a2, a3, a4, a5, a6, a7⟩ := h
  have hk64 := a1.k64 hk
  have f0 : Fr [0, 16, 17] RC t x (ob_i x 0 0) := Fr.i _ _ _ _ (by decide)
  have s0 : Sim t (ob_i x 0 0) y G := a1.fr (cs := []) (is := [0]) (s := t) (Fr.i _ _ _ _ (by decide)) (by decide) (by decide) (by decide) (by decide) (by decide) (by decide)
  obtain ⟨l, x1, g1, g2, g3, g4, g5, g6, g7, g8⟩ := s0.goes ht8 a1.sz hk64
  have s1 : Sim t x1 y G := s0.fr g6 (by decide) (by decide) (by decide) (by decide) (by decide) (by decide)
  have hl : l = some k := by
    cases l with
    | none => have := s1.1.2.2.2.2.2.2.2.2 (g7 rfl) k; rw [hk] at this; cases this
    | some a => rw [s1.1.found hk (g8 a rfl)]
  subst hl
  have k1 : x1.2 2 t = T.1 0 := by rw [g6.2.1 2 (by decide)]; exact a2
  have w1 := s1.1.w1 hk
  obtain ⟨hh, x2, y2, G2, b1, b2, b3, b4, b5, b6, b7, b8, b9⟩ := sim_sink ht8 (T := T) (v4 := nI (dep G (some k))) 64 x1 y G s1 k1 hk (by omega) FU FU 0 (by decide) (by decide) (by omega)
  have hk2 : gI G2 k = true := by rw [b5]; exact hk
  obtain ⟨x3, c1, c2, c3, c4⟩ := rm_takeOff b4.1 b4.2.2.2.2 ht8 hk2
  obtain ⟨y3, d1, d2, d3⟩ := rs_takeOff b4.1 b4.2.1 b4.2.2.1 b4.2.2.2.1 hk2 b6 b7
  have hw3 := b4.1.del hk2 b6 b7
  have f3 : Fr [0, 16, 17] RC t x2 (ob_a (ob_a x3 7 (64 * t + k) 0) 8 t (x2.2 8 t - 1)) := ((c4.mono (by decide) (by decide)).tr (Fr.a _ _ _ (by decide) (inT4 (by decide) hk64))).tr (Fr.a _ _ _ (by decide) (inT1 (by decide) (by decide)))
  have e9 : (ob_a (ob_a x3 7 (64 * t + k) 0) 8 t (x2.2 8 t - 1)).2 9 = x2.2 9 := by rw [ar_n _ _ _ (by decide), ar_n _ _ _ (by decide), c4.2.1 9 (by decide)]
  have s3 : Sim t (ob_a (ob_a x3 7 (64 * t + k) 0) 8 t (x2.2 8 t - 1)) y3 (gdel G2 k) := ⟨hw3, GN.del b4.2.1 b4.1, GS.del hw3, by rw [e9]; exact d2, c2⟩
  have e8 : (ob_a (ob_a x3 7 (64 * t + k) 0) 8 t (x2.2 8 t - 1)).2 8 t = nI (cnt (gI (gdel G2 k)) 0 64) := by
    rw [ar_a, upd_at, if_pos rfl, b8.2.1 8 (by decide), g6.2.1 8 (by decide)]
    have := cnt_del hk64 hk2
    show x.2 8 t - 1 = nI (cnt (dI (gI G2) k) 0 64)
    rw [a5, ← b5, ← this, nI_pred]
  have unf : fX6_remove (nI t) (nI k) x = (if enc (gU G2 k) < 0 then fX6_remove_J155 (nI t) (nI (dep G (some k))) (ob_a (ob_a x3 7 (64 * t + k) 0) 8 t (x2.2 8 t - 1)) else Option.bind (fX6_acts (nI t) (enc (gU G2 k)) (ob_a (ob_a x3 7 (64 * t + k) 0) 8 t (x2.2 8 t - 1))) (fun q => fX6_remove_J155 (nI t) (nI (dep G (some k))) q)) := by
    rw [fX6_remove, isTree_1 hn h1 ht, Option.bind_some, if_neg (by decide), isKey6_1 hk64, Option.bind_some, if_neg (by decide), fX6_remove_J21, px_let, if_pos (by show (0 : Int32) ≤ 0; decide), g1, Option.bind_some, px_let, px_let, if_pos rfl, if_neg (show ¬ ((1 : Int32), x1).1 = 0 from by show ¬ (1:Int32) = 0; decide), b1, Option.bind_some, g4, b2, fX6_remove_J101, ix6 ht8 hk64, px_let, b4.above hk2, c1, Option.bind_some, ix6 ht8 hk64, px_let, ix_nI ht8 (by decide), ix_nI ht8 (by decide), px_let, nar0, ar_n _ _ _ (by decide), c3]
  have unf3 : fX4_giveUp (nI k) T y = Option.bind (fX4_act (enc (gU G2 k)) T y3) (fun q57 => (if T.1 0 = 4 then Option.bind (fX3_keysHeld q57) (fun q73 => (if 2 * T.1 4 ≤ 3 * q73 then some (nI (dep G (some k)), T, q57) else Option.bind (fX4_evenOut (q57.1 5) T q57) (fun q94 => some (nI (dep G (some k)), q94.1, q94.2)))) else some (nI (dep G (some k)), T, q57))) := by
    have e3 : fX4_sink (nI k) T y = some y2 := b3
    rw [fX4_giveUp, g2, Option.bind_some, g3, Option.bind_some, enc_s, if_pos rfl, e3, Option.bind_some, b4.upOf hk2, Option.bind_some, d1, Option.bind_some]
  have fr2 : Fr [0, 16, 17] RC t x x2 := (f0.tr (g6.mono (by decide) (by decide))).tr (b8.mono (by decide) (by decide))
  have e0 : (ob_a (ob_a x3 7 (64 * t + k) 0) 8 t (x2.2 8 t - 1)).1 0 = 0 := by
    rw [(show (ob_a (ob_a x3 7 (64 * t + k) 0) 8 t (x2.2 8 t - 1)).1 = x3.1 from rfl), c4.1 0 (by decide), b8.1 0 (by decide), g6.1 0 (by decide)]; rfl
  have eq : ∀ c, c ∉ RC → (ob_a (ob_a x3 7 (64 * t + k) 0) 8 t (x2.2 8 t - 1)).2 c = x.2 c := fun c hc => (fr2.tr f3).2.1 c hc
  generalize ob_a (ob_a x3 7 (64 * t + k) 0) 8 t (x2.2 8 t - 1) = x4 at f3 e9 s3 e8 unf e0 eq
  have fin : ∀ (x5 y5 : Ob) (G5 : Gh), Sim t x5 y5 G5 → gI G5 = gI (gdel G2 k) → Fr [] TC t x4 x5 → TR t x5 T y5 z G5 ∧ Fr [0, 16, 17] RC t x x5 ∧ x5.1 0 = 0 := by
    intro x5 y5 G5 q1 q2 q3
    refine ⟨⟨q1, ?_, ?_, ?_, ?_, ?_, a7⟩, (fr2.tr f3).tr (q3.mono (by decide) (by decide)), by rw [q3.1 0 (by decide)]; exact e0⟩
    · rw [q3.2.1 2 (by decide), eq 2 (by decide)]; exact a2
    · rw [q3.2.1 10 (by decide), eq 10 (by decide)]; exact a3
    · rw [q3.2.1 11 (by decide), eq 11 (by decide)]; exact a4
    · rw [q3.2.1 8 (by decide), q2]; exact e8
    · obtain ⟨r, p1, p2, p3, p4⟩ := a6
      exact ⟨r, p1, p2, by rw [q3.2.1 12 (by decide), eq 12 (by decide)]; exact p3, by rw [q3.2.1 13 (by decide), eq 13 (by decide)]; exact p4⟩
  cases hU : gU G2 k with
  | none =>
    obtain ⟨q1, q2, q3⟩ := fin x4 y3 _ s3 rfl (Fr.rf _ _ _ _)
    refine ⟨dep G (some k), x4, y3, _, ?_, ?_, q1, q2, q3⟩
    · rw [unf, hU, enc_n, if_pos m1_lt]
    · rw [unf3, hU, enc_n, fX4_act, if_pos rfl, Option.bind_some]
  | some u =>
    obtain ⟨hIu, hu64, -, -⟩ := WF.side b4.1 hk2 hU
    have huk : u ≠ k := fun e => by have := b4.1.wide hk2 hU; rw [e] at this; omega
    have hIu3 : gI (gdel G2 k) u = true := by show dI (gI G2) k u = true; rw [dI, if_neg huk]; exact hIu
    obtain ⟨x5, y5, G5, m1, m2, m3, m4, m5, m6⟩ := s3.act ht8 (T := T) (by rw [eq 2 (by decide)]; exact a2) hIu3
    obtain ⟨q1, q2, q3⟩ := fin x5 y5 G5 m3 m4 m5
    refine ⟨dep G (some k), x5, y5, G5, ?_, ?_, q1, q2, q3⟩
    · rw [unf, hU, enc_s, if_neg (nI_pos (by omega)), m1, Option.bind_some]
    · rw [unf3, hU, enc_s, m2, Option.bind_some]
/-- REMOVE of a key that is not in -/
theorem sim_remN {n : Nat} (hn : n ≤ 8) (h1 : x.1 1 = nI n) (ht : t < n) (h : TR t x T y z G) {k : Nat} (hk64 : k < 64) (hk : gI G k = false) : ∃ (r : Int32) (x' y' : Ob) (G' : Gh), fX6_remove (nI t) (nI k) x = some (r, x') ∧ fX4_giveUp (nI k) T y = some (r, T, y') ∧ TR t x' T y' z G' ∧ Fr [0, 16, 17] RC t x x' ∧ x'.1 0 = 0 := by
  have ht8 : t < 8 := by omega
  obtain ⟨a1, a2, a3, a4, a5, a6, a7⟩ := h
  have f0 : Fr [0, 16, 17] RC t x (ob_i x 0 0) := Fr.i _ _ _ _ (by decide)
  have s0 : Sim t (ob_i x 0 0) y G := a1.fr (cs := []) (is := [0]) (s := t) (Fr.i _ _ _ _ (by decide)) (by decide) (by decide) (by decide) (by decide) (by decide) (by decide)
  obtain ⟨l, x1, g1, g2, g3, g4, g5, g6, g7, g8⟩ := s0.goes ht8 a1.sz hk64
  have s1 : Sim t x1 y G := s0.fr g6 (by decide) (by decide) (by decide) (by decide) (by decide) (by decide)
  have hl : l ≠ some k := fun e => by have := (g8 k e).1.1; rw [hk] at this; cases this
  have e0 : x1.1 0 = 0 := by rw [g6.1 0 (by decide)]; rfl
  have fr1 : Fr [0, 16, 17] RC t x x1 := f0.tr (g6.mono (by decide) (by decide))
  have eq : ∀ c, x1.2 c = x.2 c := fun c => by rw [g6.2.1 c (by simp)]; rfl
  have fin : ∀ (x5 y5 : Ob) (G5 : Gh), Sim t x5 y5 G5 → gI G5 = gI G → Fr [] TC t x1 x5 → TR t x5 T y5 z G5 ∧ Fr [0, 16, 17] RC t x x5 ∧ x5.1 0 = 0 := by
    intro x5 y5 G5 q1 q2 q3
    refine ⟨⟨q1, ?_, ?_, ?_, ?_, ?_, a7⟩, fr1.tr (q3.mono (by decide) (by decide)), by rw [q3.1 0 (by decide)]; exact e0⟩
    · rw [q3.2.1 2 (by decide), eq 2]; exact a2
    · rw [q3.2.1 10 (by decide), eq 10]; exact a3
    · rw [q3.2.1 11 (by decide), eq 11]; exact a4
    · rw [q3.2.1 8 (by decide), q2, eq 8]; exact a5
    · obtain ⟨r, p1, p2, p3, p4⟩ := a6
      exact ⟨r, p1, p2, by rw [q3.2.1 12 (by decide), eq 12]; exact p3, by rw [q3.2.1 13 (by decide), eq 13]; exact p4⟩
  have unf : fX6_remove (nI t) (nI k) x = (if enc l < 0 then some (-nI (dep G l), x1) else Option.bind (fX6_acts (nI t) (enc l) x1) (fun q => some (-nI (dep G l), q))) := by
    rw [fX6_remove, isTree_1 hn h1 ht, Option.bind_some, if_neg (by decide), isKey6_1 hk64, Option.bind_some, if_neg (by decide), fX6_remove_J21, px_let, if_pos (by show (0 : Int32) ≤ 0; decide), g1, Option.bind_some, px_let, px_let, if_neg hl, if_pos rfl, g4, g5]
  cases l with
  | none =>
    obtain ⟨q1, q2, q3⟩ := fin x1 y G s1 rfl (Fr.rf _ _ _ _)
    refine ⟨-nI (dep G none), x1, y, G, ?_, ?_, q1, q2, q3⟩
    · rw [unf, enc_n, if_pos m1_lt]
    · rw [fX4_giveUp, g2, Option.bind_some, g3, Option.bind_some, enc_n, if_neg (fun e => nI_ne_m1 (by omega) e.symm), fX4_act, if_pos rfl]; rfl
  | some a =>
    have hIa : gI G a = true := (g8 a rfl).1.1
    have ha64 := s1.k64 hIa
    obtain ⟨x5, y5, G5, m1, m2, m3, m4, m5, m6⟩ := s1.act ht8 (T := T) (by rw [eq 2]; exact a2) hIa
    obtain ⟨q1, q2, q3⟩ := fin x5 y5 G5 m3 m4 m5
    refine ⟨-nI (dep G (some a)), x5, y5, G5, ?_, ?_, q1, q2, q3⟩
    · rw [unf, enc_s, if_neg (nI_pos (by omega)), m1]; rfl
    · rw [fX4_giveUp, g2, Option.bind_some, g3, Option.bind_some, enc_s, if_neg (fun e => hl (by rw [(nI_eq (by omega) (by omega)).mp e])), m2]; rfl
/-- REMOVE, of every kind but BALANCE -/
theorem sim_remove {n : Nat} (hn : n ≤ 8) (h1 : x.1 1 = nI n) (ht : t < n) (h : TR t x T y z G) {k : Nat} (hk64 : k < 64) (h4 : ¬ T.1 0 = 4) : ∃ (r : Int32) (x' y' : Ob) (G' : Gh), fX6_remove (nI t) (nI k) x = some (r, x') ∧ fX4_giveUp (nI k) T y = some (r, T, y') ∧ TR t x' T y' z G' ∧ Fr [0, 16, 17] RC t x x' ∧ x'.1 0 = 0 := by
  cases hk : gI G k with
  | false => exact sim_remN hn h1 ht h hk64 hk
  | true =>
    obtain ⟨c, x5, y5, G5, b1, b2, b3, b4, b5⟩ := sim_remF hn h1 ht h hk
    refine ⟨nI c, x5, y5, G5, ?_, ?_, b3, b4, b5⟩
    · rw [b1, fX6_remove_J155, ix_nI (by omega) (by decide), b3.2.1, if_neg h4]
    · rw [b2, if_neg h4]
end R3
