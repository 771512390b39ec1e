section AL
variable {t : Nat} {x x' y T z : Ob} {G : Gh}
set_option maxHeartbeats 2000000 in
/-- ADD of BALANCE -/
theorem sim_add4 {n : Nat} (hn : n ≤ 8) (h1 : x.1 1 = nI n) (ht : t < n) (h : TR t x T y z G) {k : Nat} (hk : k < 64) (hI : gI G k = false) (h4 : T.1 0 = 4) : ∃ (r : Int32) (x' T' y' : Ob) (G' : Gh), fX6_add (nI t) (nI k) x = some (r, x') ∧ fX4_takeIn (nI k) T y = some (r, T', y') ∧ TR t x' T' y' z G' ∧ Fr [0, 15, 16, 17] AC t x x' ∧ x'.1 0 = 0 := by
  have ht8 : t < 8 := by omega
  obtain ⟨l, x2, y2, b1, b2, b3, b4, b5, b6, b7, b8, b9⟩ := sim_leaf hn h1 ht h hk hI
  obtain ⟨a1, a2, a3, a4, a5, a6, a7, ⟨m, m1, m2⟩, a9⟩ := h
  have k2 : x2.2 2 t = T.1 0 := by rw [b7.2.1 2 (by decide)]; exact a2
  have e11 : x2.2 11 t = T.1 4 := by rw [b7.2.1 11 (by decide)]; exact a4
  generalize hG2 : gadd G k l = G2 at b5 b6 b9
  have c64 : cnt (gI G2) 0 64 ≤ 64 := cnt_le _ _ _
  have c1 : 1 ≤ cnt (gI G2) 0 64 := by
    have := cnt_in (gI G2) 0 (Nat.zero_le k) b9
    have := cnt_mono (gI G2) 0 (show k + 1 - 0 ≤ 64 by omega)
    omega
  generalize hN : cnt (gI G2) 0 64 = N at *
  have em : (if T.1 4 < nI N then nI N else T.1 4) = nI (max m N) := by
    rw [m2]
    by_cases q : m < N
    · rw [if_pos (nI_lt q (by omega)), Nat.max_eq_right (by omega)]
    · rw [if_neg (nI_nlt (by omega) (by omega)), Nat.max_eq_left (by omega)]
  have f3 : Fr [0, 15, 16, 17] AC t x2 (ob_a x2 11 t (nI (max m N))) := Fr.a _ _ _ (by decide) (inT1 (by decide) (by decide))
  have s3 : Sim t (ob_a x2 11 t (nI (max m N))) y2 G2 := b5.fr (cs := [11]) (is := []) (s := t) (Fr.a _ _ _ (by decide) (inT1 (by decide) (by decide))) (by decide) (by decide) (by decide) (by decide) (by decide) (by decide)
  have u11 : (ob_a x2 11 t (nI (max m N))).2 11 t = nI (max m N) := by rw [ar_a, upd_at, if_pos rfl]
  have uc : ∀ c, c ≠ 11 → (ob_a x2 11 t (nI (max m N))).2 c = x2.2 c := fun c hc => ar_n _ _ _ hc
  have acts : fX6_acts (nI t) (nI k) x2 = some x2 := by
    rw [fX6_acts, ix_nI ht8 (by decide), k2, h4, if_neg (by decide), ix_nI ht8 (by decide), k2, h4, if_neg (by decide), fX6_acts_J52, ix_nI ht8 (by decide), k2, h4, if_neg (by decide)]
  have bal : fX6_balances (nI t) (nI k) x2 = fX6_balances_J35 (nI t) (nI k) (nI t) (nI (max m N)) x2 := by
    rw [fX6_balances, ix_nI ht8 (by decide), ix_nI ht8 (by decide), b6, e11, m2]
    by_cases q : N ≤ m
    · rw [if_pos (nI_le q (by omega)), ix_nI ht8 (by decide), e11, m2, Nat.max_eq_left q]
    · rw [if_neg (nI_ge (by omega) (by omega)), ix_nI ht8 (by decide), b6, Nat.max_eq_right (by omega)]
  have J35 : fX6_balances_J35 (nI t) (nI k) (nI t) (nI (max m N)) x2 = Option.bind (fX6_depthOf (nI t) (nI k) (ob_a x2 11 t (nI (max m N)))) (fun q39 => Option.bind (fX6_isDeep q39 (nI N)) (fun q48 => if q48 = 0 then some (ob_a x2 11 t (nI (max m N))) else fX6_balances_L67 FU (nI t) ((ob_a x2 11 t (nI (max m N))).2 4 (64 * t + k)) (ob_a x2 11 t (nI (max m N))))) := by
    rw [fX6_balances_J35, ix_nI ht8 (by decide), px_let]
    refine congrArg _ (funext fun q39 => ?_)
    rw [ix_nI ht8 (by decide), uc 8 (by decide), b6]
    refine congrArg _ (funext fun q48 => ?_)
    rw [ix6 ht8 hk, px_let]
  have e2 : (ob_a x2 11 t (nI (max m N))).2 2 t = 4 := by rw [uc 2 (by decide), k2, h4]
  have e8 : (ob_a x2 11 t (nI (max m N))).2 8 t = nI N := by rw [uc 8 (by decide), b6]
  have e10 : (ob_a x2 11 t (nI (max m N))).2 10 t = T.1 3 := by rw [uc 10 (by decide), b7.2.1 10 (by decide)]; exact a3
  have e12 : (ob_a x2 11 t (nI (max m N))).2 12 = x.2 12 := by rw [uc 12 (by decide), b7.2.1 12 (by decide)]
  have e13 : (ob_a x2 11 t (nI (max m N))).2 13 = x.2 13 := by rw [uc 13 (by decide), b7.2.1 13 (by decide)]
  have e0 : (ob_a x2 11 t (nI (max m N))).1 0 = 0 := b8
  have f03 : Fr [0, 15, 16, 17] AC t x (ob_a x2 11 t (nI (max m N))) := (b7.mono (by decide) (by decide)).tr f3
  generalize ob_a x2 11 t (nI (max m N)) = x3 at *
  have fin : ∀ (x4 T' y' : Ob) (G' : Gh), Sim t x4 y' G' → gI G' = gI G2 → Fr [15] EC t x3 x4 → x4.2 11 t = T'.1 4 → T'.1 0 = T.1 0 → T'.1 3 = T.1 3 → (∃ m : Nat, m ≤ 64 ∧ T'.1 4 = nI m) → TR t x4 T' y' z G' ∧ Fr [0, 15, 16, 17] AC t x x4 ∧ x4.1 0 = 0 := by
    intro x4 T' y' G' c1 c2 c3 c4 c5 c6 c7
    refine ⟨⟨c1, ?_, ?_, c4, ?_, ?_, by rw [c5]; exact a7, c7, fun q => absurd (by rw [c5, h4]) q⟩, f03.tr (c3.mono (by decide) (by decide)), by rw [c3.1 0 (by decide)]; exact e0⟩
    · rw [c3.2.1 2 (by decide), e2, c5, h4]
    · rw [c3.2.1 10 (by decide), e10, c6]
    · rw [c3.2.1 8 (by decide), c2, e8, hN]
    · obtain ⟨r, d1, d2, d3, d4⟩ := a6
      exact ⟨r, d1, d2, by rw [c3.2.1 12 (by decide), e12]; exact d3, by rw [c3.2.1 13 (by decide), e13]; exact d4⟩
  have dep64 := dep_64 s3.1 b9
  have dep1 : 1 ≤ dep G2 (some k) := by rw [dep_s]; omega
  have dx := rm_dep s3.1 s3.2.2.2.2 ht8 b9
  have dy := rs_dep s3.1 s3.2.1 s3.2.2.1 s3.2.2.2.1 b9 s3.sz
  obtain ⟨q, q1, q2, q3⟩ := deep_eq (d := dep G2 (some k)) (n := N) dep64 dep1 c1 c64
  have hy2 : fX3_keysHeld y2 = some (nI N) := by rw [s3.held, hN]
  have tk : fX4_takeIn (nI k) T y = (if q = 0 then some (nI (dep G l), ob_i T 4 (nI (max m N)), y2) else Option.bind (fX4_lopsidedAbove (nI k) y2) (fun q77 => Option.bind (fX4_evenOut q77 (ob_i T 4 (nI (max m N))) y2) (fun q80 => some (nI (dep G l), q80.1, q80.2)))) := by
    rw [fX4_takeIn, b2, Option.bind_some, b3, Option.bind_some, b4, Option.bind_some, if_pos h4, hy2, Option.bind_some, px_let, em, dy, Option.bind_some, Option.bind_some, q3, Option.bind_some]
  have ad : fX6_add (nI t) (nI k) x = Option.bind (Option.bind (if q = 0 then some x3 else fX6_balances_L67 FU (nI t) (enc (gU G2 k)) x3) (fun q19 => fX6_actsAdded_L22 FU (nI t) (nI k) q19)) (fun q150 => some (nI (dep G l), q150)) := by
    rw [b1, fX6_add_J147, fX6_actsAdded, acts, Option.bind_some, ix_nI ht8 (by decide), k2, if_pos h4, bal, J35, dx, Option.bind_some, q2, Option.bind_some, s3.above b9]
  have no5 : ∀ x4, x4.2 2 t = x3.2 2 t → fX6_actsAdded_L22 FU (nI t) (nI k) x4 = some x4 := fun x4 hx => L22_no ht8 (by rw [hx, e2]; decide) _
  have hmx : max m N ≤ 64 := by omega
  by_cases z0 : q = 0
  · obtain ⟨g1, g2, g3⟩ := fin x3 (ob_i T 4 (nI (max m N))) y2 G2 s3 rfl (Fr.rf _ _ _ _) u11 rfl rfl ⟨max m N, hmx, rfl⟩
    exact ⟨_, x3, _, y2, G2, by rw [ad, if_pos z0, Option.bind_some, no5 x3 rfl, Option.bind_some], by rw [tk, if_pos z0], g1, g2, g3⟩
  · obtain ⟨r, r1, r2, r3⟩ := sim_lop s3 ht8 64 (gU G2 k) FU FU 0 (fun u hu => by obtain ⟨w1, w2⟩ := s3.1.wide b9 hu; have := s3.1.w1 b9; exact ⟨w1, by unfold wid at *; omega⟩) (by decide) (by decide) (by omega)
    have lop : fX4_lopsidedAbove (nI k) y2 = some (enc r) := by rw [fX4_lopsidedAbove, s3.upOf b9, Option.bind_some]; exact r3
    have hrt : gr G2 ≠ none := fun e => by have := s3.1.2.2.2.2.2.2.2.2 e k; rw [b9] at this; cases this
    cases r with
    | none =>
      obtain ⟨g1, g2, g3⟩ := fin x3 (ob_i T 4 (nI (max m N))) y2 G2 s3 rfl (Fr.rf _ _ _ _) u11 rfl rfl ⟨max m N, hmx, rfl⟩
      refine ⟨_, x3, _, y2, G2, by rw [ad, if_neg z0, r2, fX6_balances_J95, enc_n, if_pos m1_lt, Option.bind_some, no5 x3 rfl, Option.bind_some], ?_, g1, g2, g3⟩
      have e5 : y2.1 5 = enc (gr G2) := s3.2.2.2.1.2.2.2.2.1
      rw [tk, if_neg z0, lop, Option.bind_some, enc_n, fX4_evenOut, if_neg (fun e => by rw [e5] at e; exact hrt ((enc_m1 (WF.brt s3.1)).mp e.symm)), fX4_evenOut_J16, fX3_makeEven, if_pos rfl, Option.bind_some, if_pos rfl, Option.bind_some]
    | some c =>
      obtain ⟨x4, T', y4, G4, v1, v2, v3, v4, v5, v6, v7, v8, v9⟩ := sim_evenOut (T := ob_i T 4 (nI (max m N))) s3 ht8 h4 u11 (by rw [e8, hN]) (r1 c rfl)
      obtain ⟨g1, g2, g3⟩ := fin x4 T' y4 G4 v3 v4 v5 v6 v7 v8 (by
        rcases v9 with w | w
        · exact ⟨max m N, hmx, w⟩
        · exact ⟨N, c64, by rw [w, hN]⟩)
      have c64' := s3.k64 (r1 c rfl)
      exact ⟨_, x4, T', y4, G4, by rw [ad, if_neg z0, r2, fX6_balances_J95, enc_s, if_neg (nI_pos (by omega)), v1, Option.bind_some, Option.bind_some, no5 x4 (by rw [v5.2.1 2 (by decide)]), Option.bind_some], by rw [tk, if_neg z0, lop, Option.bind_some, enc_s, v2, Option.bind_some], g1, g2, g3⟩
/-- ADD -/
theorem sim_addA {n : Nat} (hn : n ≤ 8) (h1 : x.1 1 = nI n) (ht : t < n) (h : TR t x T y z G) {k : Nat} (hk : k < 64) (hI : gI G k = false) : ∃ (r : Int32) (x' T' y' : Ob) (G' : Gh), fX6_add (nI t) (nI k) x = some (r, x') ∧ fX4_takeIn (nI k) T y = some (r, T', y') ∧ TR t x' T' y' z G' ∧ Fr [0, 15, 16, 17] AC t x x' ∧ x'.1 0 = 0 := by
  by_cases h4 : T.1 0 = 4
  · exact sim_add4 hn h1 ht h hk hI h4
  · exact sim_add hn h1 ht h hk hI h4
set_option maxHeartbeats 2000000 in
/-- REMOVE -/
theorem sim_remA {n : Nat} (hn : n ≤ 8) (h1 : x.1 1 = nI n) (ht : t < n) (h : TR t x T y z G) {k : Nat} (hk64 : k < 64) : ∃ (r : Int32) (x' T' y' : Ob) (G' : Gh), fX6_remove (nI t) (nI k) x = some (r, x') ∧ fX4_giveUp (nI k) T y = some (r, T', y') ∧ TR t x' T' y' z G' ∧ Fr [0, 15, 16, 17] AC t x x' ∧ x'.1 0 = 0 := by
  have ht8 : t < 8 := by omega
  by_cases h4 : T.1 0 = 4
  · cases hk : gI G k with
    | false =>
      obtain ⟨r, x', y', G', c1, c2, c3, c4, c5⟩ := sim_remN hn h1 ht h hk64 hk
      exact ⟨r, x', T, y', G', c1, c2, c3, c4.mono (by decide) (by decide), c5⟩
    | true =>
      obtain ⟨c, x5, y5, G5, b1, b2, b3, b4, b5⟩ := sim_remF hn h1 ht h hk
      obtain ⟨a1, a2, a3, a4, a5, a6, a7, ⟨m, m1, m2⟩, a9⟩ := id b3
      have k2 : x5.2 2 t = 4 := by rw [a2, h4]
      have c64 : cnt (gI G5) 0 64 ≤ 64 := cnt_le _ _ _
      rw [if_pos h4, a1.held, Option.bind_some, m2, i2, i3] at b2
      have u6 : fX6_remove (nI t) (nI k) x = (if nI (2 * m) ≤ nI (3 * cnt (gI G5) 0 64) then some (nI c, x5) else px_let (ob_a x5 11 t (nI (cnt (gI G5) 0 64))) (fun x_195 => ix (nI t) 8 (fun j201 => if (x_195.2 3 j201) < 0 then some (nI c, x_195) else ix (nI t) 8 (fun j212 => Option.bind (fX6_makesEven (nI t) (x_195.2 3 j212) x_195) (fun q213 => some (nI c, q213)))))) := by
        rw [b1, fX6_remove_J155, ix_nI ht8 (by decide), if_pos k2, ix_nI ht8 (by decide), ix_nI ht8 (by decide), a4, m2, a5, i2, i3, ix_nI ht8 (by decide), ix_nI ht8 (by decide), a5]
      by_cases q : 2 * m ≤ 3 * cnt (gI G5) 0 64
      · exact ⟨nI c, x5, T, y5, G5, by rw [u6, if_pos (nI_le q (by omega))], by rw [b2, if_pos (nI_le q (by omega))], b3, b4.mono (by decide) (by decide), b5⟩
      · rw [if_neg (nI_ge (by omega) (by omega))] at b2 u6
        have f6 : Fr [0, 15, 16, 17] AC t x5 (ob_a x5 11 t (nI (cnt (gI G5) 0 64))) := Fr.a _ _ _ (by decide) (inT1 (by decide) (by decide))
        have s6 : Sim t (ob_a x5 11 t (nI (cnt (gI G5) 0 64))) y5 G5 := a1.fr (cs := [11]) (is := []) (s := t) (Fr.a _ _ _ (by decide) (inT1 (by decide) (by decide))) (by decide) (by decide) (by decide) (by decide) (by decide) (by decide)
        have u11 : (ob_a x5 11 t (nI (cnt (gI G5) 0 64))).2 11 t = nI (cnt (gI G5) 0 64) := by rw [ar_a, upd_at, if_pos rfl]
        have uc : ∀ c', c' ≠ 11 → (ob_a x5 11 t (nI (cnt (gI G5) 0 64))).2 c' = x5.2 c' := fun c' hc => ar_n _ _ _ hc
        have e0 : (ob_a x5 11 t (nI (cnt (gI G5) 0 64))).1 0 = 0 := b5
        rw [px_let, ix_nI ht8 (by decide)] at u6
        generalize ob_a x5 11 t (nI (cnt (gI G5) 0 64)) = x6 at *
        have fin : ∀ (x4 T' y' : Ob) (G' : Gh), Sim t x4 y' G' → gI G' = gI G5 → Fr [15] EC t x6 x4 → x4.2 11 t = T'.1 4 → T'.1 0 = T.1 0 → T'.1 3 = T.1 3 → (∃ m : Nat, m ≤ 64 ∧ T'.1 4 = nI m) → TR t x4 T' y' z G' ∧ Fr [0, 15, 16, 17] AC t x x4 ∧ x4.1 0 = 0 := by
          intro x4 T' y' G' c1 c2 c3 c4 c5 c6 c7
          refine ⟨⟨c1, ?_, ?_, c4, ?_, ?_, by rw [c5]; exact a7, c7, fun q => absurd (by rw [c5, h4]) q⟩, ((b4.mono (by decide) (by decide)).tr f6).tr (c3.mono (by decide) (by decide)), by rw [c3.1 0 (by decide)]; exact e0⟩
          · rw [c3.2.1 2 (by decide), uc 2 (by decide), k2, c5, h4]
          · rw [c3.2.1 10 (by decide), uc 10 (by decide), c6]; exact a3
          · rw [c3.2.1 8 (by decide), uc 8 (by decide), c2]; exact a5
          · obtain ⟨r, d1, d2, d3, d4⟩ := a6
            exact ⟨r, d1, d2, by rw [c3.2.1 12 (by decide), uc 12 (by decide)]; exact d3, by rw [c3.2.1 13 (by decide), uc 13 (by decide)]; exact d4⟩
        have e3 : x6.2 3 t = enc (gr G5) := s6.2.2.2.2.2.2.2.2
        have e5 : y5.1 5 = enc (gr G5) := s6.2.2.2.1.2.2.2.2.1
        cases hr : gr G5 with
        | none =>
          obtain ⟨g1, g2, g3⟩ := fin x6 (ob_i T 4 (nI (cnt (gI G5) 0 64))) y5 G5 s6 rfl (Fr.rf _ _ _ _) u11 rfl rfl ⟨_, c64, rfl⟩
          refine ⟨nI c, x6, ob_i T 4 (nI (cnt (gI G5) 0 64)), y5, G5, ?_, ?_, g1, g2, g3⟩
          · rw [u6, e3, hr, enc_n, if_pos m1_lt]
          · rw [b2, fX4_evenOut, if_pos rfl, fX4_evenOut_J16, e5, hr, enc_n, fX3_makeEven, if_pos rfl, Option.bind_some, if_neg (by decide), fX4_beginMost, if_pos h4, a1.held, Option.bind_some, fX4_beginMost_J20, px_let, Option.bind_some, Option.bind_some]
        | some c0 =>
          have hc0 := (s6.1.2.2.2.2.2.2.2.1 c0 hr)
          have c0' := s6.k64 hc0.1
          obtain ⟨x4, y4, G4, v1, v2, v3, v4, v5, v6, -⟩ := sim_makeEven s6 ht8 hc0.1
          obtain ⟨g1, g2, g3⟩ := fin x4 (ob_i T 4 (nI (cnt (gI G5) 0 64))) y4 G4 v3 v4 v5 (by rw [v6 hc0.2.1, uc 8 (by decide), a5]; rfl) rfl rfl ⟨_, c64, rfl⟩
          refine ⟨nI c, x4, ob_i T 4 (nI (cnt (gI G5) 0 64)), y4, G4, ?_, ?_, g1, g2, g3⟩
          · rw [u6, e3, hr, enc_s, if_neg (nI_pos (by omega)), ix_nI ht8 (by decide), e3, hr, enc_s, v1, Option.bind_some]
          · rw [b2, fX4_evenOut, if_pos rfl, fX4_evenOut_J16, e5, hr, enc_s, v2, Option.bind_some, if_neg (by decide), fX4_beginMost, if_pos h4, v3.held, v4, Option.bind_some, fX4_beginMost_J20, px_let, Option.bind_some, Option.bind_some]
  · obtain ⟨r, x', y', G', c1, c2, c3, c4, c5⟩ := sim_remove hn h1 ht h hk64 h4
    exact ⟨r, x', T, y', G', c1, c2, c3, c4.mono (by decide) (by decide), c5⟩
end AL
