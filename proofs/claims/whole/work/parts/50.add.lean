/-- the weight of a key -/
def wt (k : Nat) : Nat := (37 * k + 11) % 64
theorem wt_lt (k : Nat) : wt k < 64 := Nat.mod_lt _ (by decide)
theorem w_lin (k : Nat) : (37 : Int32) * nI k + 11 = nI (37 * k + 11) := by
  show nI 37 * nI k + nI 11 = _
  rw [pk_mul, nI_add]
theorem weight6 {k : Nat} (hk : k < 64) : fX6_weight (nI k) = some (nI (wt k)) := by
  rw [fX6_weight, w_lin]
  show some (nI _ - nI _ / nI 64 * nI 64) = _
  rw [pk_rem (by omega) (by decide) (by decide)]; rfl
theorem weight5 {k : Nat} (hk : k < 64) : fX5_weight (nI k) = some (nI (wt k)) := by
  rw [fX5_weight, w_lin, pk_andN (by omega) 6 (by decide)]; rfl
section AD
variable {t : Nat} {x x' y : Ob} {G : Gh}
theorem sim_rise (ht : t < 8) {k : Nat} : ∀ (m : Nat) (x y : Ob) (G : Gh), Sim t x y G → x.2 2 t = 5 → gI G k = true → 64 ≤ m + (ghi G k - glo G k) → ∀ n1 n2 st : Nat, m < n1 → m < n2 → st + m < 64 →
    ∃ x' y' G', fX6_actsAdded_L22 n1 (nI t) (nI k) x = some x' ∧ fX4_riseByWeight_L2 n2 (nI k) (nI st) y = some y' ∧ Sim t x' y' G' ∧ gI G' = gI G ∧ Fr [] TC t x x' ∧ y'.2 4 = y.2 4 := by
  intro m
  induction m with
  | zero =>
    intro x y G h h5 hk hwd n1 n2 st h1 h2 h3
    cases hU : gU G k with
    | some u =>
      obtain ⟨hIu, hw⟩ := h.1.wide hk hU
      have := h.1.1 u hIu
      omega
    | none =>
      obtain ⟨n1, rfl⟩ := Nat.exists_eq_succ_of_ne_zero (by omega : n1 ≠ 0)
      obtain ⟨n2, rfl⟩ := Nat.exists_eq_succ_of_ne_zero (by omega : n2 ≠ 0)
      refine ⟨x, y, G, ?_, ?_, h, rfl, Fr.rf _ _ _ _, rfl⟩
      · rw [fX6_actsAdded_L22, ix_nI ht (by decide), if_pos h5, ix6 ht (h.k64 hk), h.above hk, hU, enc_n, if_pos m1_lt]
      · rw [fX4_riseByWeight_L2, if_neg (st64 (by omega)), h.upOf hk, Option.bind_some, hU, enc_n, if_pos rfl]
  | succ m ih =>
    intro x y G h h5 hk hwd n1 n2 st h1 h2 h3
    obtain ⟨n1, rfl⟩ := Nat.exists_eq_succ_of_ne_zero (by omega : n1 ≠ 0)
    obtain ⟨n2, rfl⟩ := Nat.exists_eq_succ_of_ne_zero (by omega : n2 ≠ 0)
    have hk64 := h.k64 hk
    cases hU : gU G k with
    | none =>
      refine ⟨x, y, G, ?_, ?_, h, rfl, Fr.rf _ _ _ _, rfl⟩
      · rw [fX6_actsAdded_L22, ix_nI ht (by decide), if_pos h5, ix6 ht (h.k64 hk), h.above hk, hU, enc_n, if_pos m1_lt]
      · rw [fX4_riseByWeight_L2, if_neg (st64 (by omega)), h.upOf hk, Option.bind_some, hU, enc_n, if_pos rfl]
    | some u =>
      obtain ⟨hIu, hw⟩ := h.1.wide hk hU
      have hu64 := h.k64 hIu
      have hb : Bd (some u) := Bd_s hu64
      have g1 : ¬ enc (some u) < 0 := fun e => by rw [enc_lt0 hb] at e; cases e
      have g2 : ¬ enc (some u) = -1 := fun e => by rw [enc_m1 hb] at e; cases e
      have wk := wt_lt k
      have wu := wt_lt u
      by_cases q : wt k ≤ wt u
      · refine ⟨x, y, G, ?_, ?_, h, rfl, Fr.rf _ _ _ _, rfl⟩
        · rw [fX6_actsAdded_L22, ix_nI ht (by decide), if_pos h5, ix6 ht hk64, h.above hk, hU, if_neg g1, weight6 hk64, Option.bind_some, ix6 ht hk64, h.above hk, hU, enc_s, weight6 hu64, Option.bind_some, if_pos (nI_le q (by omega))]
        · rw [fX4_riseByWeight_L2, if_neg (st64 (by omega)), h.upOf hk, Option.bind_some, hU, if_neg g2, weight5 hk64, Option.bind_some, enc_s, weight5 hu64, Option.bind_some, if_neg (nI_nlt q (by omega))]
      · obtain ⟨x1, y1, a1, a2, a3, a4, a5⟩ := h.turn ht hk hU
        obtain ⟨x', y', G', b1, b2, b3, b4, b6, b7⟩ := ih x1 y1 (gturn G k u) a3 (by rw [a4.2.1 2 (by decide)]; exact h5) hk (by rw [gturn_lo, gturn_hi]; omega) n1 n2 (st + 1) (by omega) (by omega) (by omega)
        refine ⟨x', y', G', ?_, ?_, b3, b4, a4.tr b6, b7.trans a5⟩
        · rw [fX6_actsAdded_L22, ix_nI ht (by decide), if_pos h5, ix6 ht hk64, h.above hk, hU, if_neg g1, weight6 hk64, Option.bind_some, ix6 ht hk64, h.above hk, hU, enc_s, weight6 hu64, Option.bind_some, if_neg (nI_ge (by omega) (by omega)), a1, Option.bind_some, b1]
        · rw [fX4_riseByWeight_L2, if_neg (st64 (by omega)), h.upOf hk, Option.bind_some, hU, if_neg g2, weight5 hk64, Option.bind_some, enc_s, weight5 hu64, Option.bind_some, if_pos (nI_lt (by omega) (by omega)), a2, Option.bind_some, px_let, nI_1, b2]
theorem Sim.rise (h : Sim t x y G) (ht : t < 8) (h5 : x.2 2 t = 5) {k : Nat} (hk : gI G k = true) : ∃ x' y' G', fX6_actsAdded_L22 FU (nI t) (nI k) x = some x' ∧ fX4_riseByWeight (nI k) y = some y' ∧ Sim t x' y' G' ∧ gI G' = gI G ∧ Fr [] TC t x x' ∧ y'.2 4 = y.2 4 := by
  have a := h.1.1 k hk
  obtain ⟨x', y', G', b1, b2, b3⟩ := sim_rise ht 63 x y G h h5 hk (by omega) FU FU 0 (by have := fu64; omega) (by have := fu64; omega) (by omega)
  exact ⟨x', y', G', b1, b2, b3⟩
theorem L22_no (ht : t < 8) (h5 : ¬ x.2 2 t = 5) (k : Int32) : fX6_actsAdded_L22 FU (nI t) k x = some x := by
  rw [fu_s, fX6_actsAdded_L22, ix_nI ht (by decide), if_neg h5]
theorem cnt_add {I : Nat → Bool} {k : Nat} (hk : k < 64) (hI : I k = false) : cnt (aI I k) 0 64 = cnt I 0 64 + 1 := by
  have e : (64 : Nat) = k + (1 + (63 - k)) := by omega
  have s : ∀ J : Nat → Bool, cnt J 0 64 = cnt J 0 k + (cnt J k 1 + cnt J (k + 1) (63 - k)) := fun J => by
    conv => lhs; rw [e]
    rw [cnt_split, cnt_split, Nat.zero_add]
  rw [s, s]
  have e1 : cnt (aI I k) 0 k = cnt I 0 k := cnt_cong (fun j _ h => by rw [aI, if_neg (by omega)])
  have e2 : cnt (aI I k) (k + 1) (63 - k) = cnt I (k + 1) (63 - k) := cnt_cong (fun j h _ => by rw [aI, if_neg (by omega)])
  have e3 : cnt (aI I k) k 1 = 1 := by rw [cnt_s, Nat.add_zero, if_pos (by rw [aI, if_pos rfl])]; rfl
  have e4 : cnt I k 1 = 0 := by rw [cnt_s, Nat.add_zero, if_neg (by rw [hI]; decide)]; rfl
  rw [e1, e2, e3, e4]; omega
/-- the reference hangs a new key -/
theorem rm_leaf (hw : GW G) (hr : RepM x t (gL G) (gR G) (gU G) (gr G) (gI G)) (ht : t < 8) {k : Nat} {l : Option Nat} (hk : k < 64) (hI : gI G k = false) (hl : ∀ a, l = some a → lastAt G k a) {β : Type} (K : Ob → Option β) : ∃ x', (if 0 ≤ enc l then (if enc l ≤ nI k then Option.bind (fX6_hangsRight (nI t) (nI k) (enc l) (ob_a (ob_a (ob_a (ob_a (ob_a x 7 (64 * t + k) 1) 5 (64 * t + k) (-1)) 6 (64 * t + k) (-1)) 4 (64 * t + k) (-1)) 8 t (x.2 8 t + 1))) K else Option.bind (fX6_hangsLeft (nI t) (nI k) (enc l) (ob_a (ob_a (ob_a (ob_a (ob_a x 7 (64 * t + k) 1) 5 (64 * t + k) (-1)) 6 (64 * t + k) (-1)) 4 (64 * t + k) (-1)) 8 t (x.2 8 t + 1))) K) else ix (nI t) 8 (fun j => K (ob_a (ob_a (ob_a (ob_a (ob_a (ob_a x 7 (64 * t + k) 1) 5 (64 * t + k) (-1)) 6 (64 * t + k) (-1)) 4 (64 * t + k) (-1)) 8 t (x.2 8 t + 1)) 3 j (nI k)))) = K x' ∧
    RepM x' t (gL (gadd G k l)) (gR (gadd G k l)) (gU (gadd G k l)) (gr (gadd G k l)) (gI (gadd G k l)) ∧ x'.2 8 t = x.2 8 t + 1 ∧ x'.2 9 = x.2 9 ∧ Fr [] [3, 4, 5, 6, 7, 8] t x x' := by
  generalize hx1 : ob_a (ob_a (ob_a (ob_a (ob_a x 7 (64 * t + k) 1) 5 (64 * t + k) (-1)) 6 (64 * t + k) (-1)) 4 (64 * t + k) (-1)) 8 t (x.2 8 t + 1) = x1
  have f1 : Fr [] [3, 4, 5, 6, 7, 8] t x x1 := by
    rw [← hx1]
    exact ((((Fr.a _ _ _ (by decide) (inT4 (by decide) hk)).tr (Fr.a _ _ _ (by decide) (inT4 (by decide) hk))).tr (Fr.a _ _ _ (by decide) (inT4 (by decide) hk))).tr (Fr.a _ _ _ (by decide) (inT4 (by decide) hk))).tr (Fr.a _ _ _ (by decide) (inT1 (by decide) (by decide)))
  have c7 : sl x1 7 t = upd (sl x 7 t) k 1 := by rw [← hx1, sl_n _ _ _ _ (by decide), sl_n _ _ _ _ (by decide), sl_n _ _ _ _ (by decide), sl_n _ _ _ _ (by decide), sl_a]
  have c5 : sl x1 5 t = upd (sl x 5 t) k (-1) := by rw [← hx1, sl_n _ _ _ _ (by decide), sl_n _ _ _ _ (by decide), sl_n _ _ _ _ (by decide), sl_a, sl_n _ _ _ _ (by decide)]
  have c6 : sl x1 6 t = upd (sl x 6 t) k (-1) := by rw [← hx1, sl_n _ _ _ _ (by decide), sl_n _ _ _ _ (by decide), sl_a, sl_n _ _ _ _ (by decide), sl_n _ _ _ _ (by decide)]
  have c4 : sl x1 4 t = upd (sl x 4 t) k (-1) := by rw [← hx1, sl_n _ _ _ _ (by decide), sl_a, sl_n _ _ _ _ (by decide), sl_n _ _ _ _ (by decide), sl_n _ _ _ _ (by decide)]
  have c8 : x1.2 8 t = x.2 8 t + 1 := by rw [← hx1, ar_a, upd_at, if_pos rfl]
  have c3 : x1.2 3 = x.2 3 := by rw [← hx1, ar_n _ _ _ (by decide), ar_n _ _ _ (by decide), ar_n _ _ _ (by decide), ar_n _ _ _ (by decide), ar_n _ _ _ (by decide)]
  have c9 : x1.2 9 = x.2 9 := by rw [← hx1, ar_n _ _ _ (by decide), ar_n _ _ _ (by decide), ar_n _ _ _ (by decide), ar_n _ _ _ (by decide), ar_n _ _ _ (by decide)]
  clear hx1
  obtain ⟨b7, b5, b6, b4, b3⟩ := hr
  have r7 : ∀ j, j < 64 → upd (sl x 7 t) k 1 j = if aI (gI G) k j = true then 1 else 0 := by
    intro j hj
    rw [upd_at, aI]
    by_cases e : j = k
    · rw [if_pos e, if_pos e, if_pos rfl]
    · rw [if_neg e, if_neg e]; exact b7 j hj
  cases l with
  | none =>
    refine ⟨ob_a x1 3 t (nI k), by rw [if_neg (by decide), ix_nI ht (by decide)], ⟨?_, ?_, ?_, ?_, ?_⟩, by rw [ar_n _ _ _ (by decide)]; exact c8, by rw [ar_n _ _ _ (by decide)]; exact c9, f1.tr (Fr.a _ _ _ (by decide) (inT1 (by decide) (by decide)))⟩
    · intro j hj; rw [sl_n _ _ _ _ (by decide), c7]; exact r7 j hj
    · intro j hj
      rw [sl_n _ _ _ _ (by decide), c5, upd_at]
      show _ = enc (aL (gL G) k none j)
      rw [aL]
      by_cases e : j = k
      · rw [if_pos e, if_pos e]; rfl
      · rw [if_neg e, if_neg e, if_neg (by simp)]
        have hj : aI (gI G) k j = true := hj
        rw [aI, if_neg e] at hj; exact b5 j hj
    · intro j hj
      rw [sl_n _ _ _ _ (by decide), c6, upd_at]
      show _ = enc (aR (gR G) k none j)
      rw [aR]
      by_cases e : j = k
      · rw [if_pos e, if_pos e]; rfl
      · rw [if_neg e, if_neg e, if_neg (by simp)]
        have hj : aI (gI G) k j = true := hj
        rw [aI, if_neg e] at hj; exact b6 j hj
    · intro j hj
      rw [sl_n _ _ _ _ (by decide), c4, upd_at]
      show _ = enc (aU (gU G) k none j)
      rw [aU]
      by_cases e : j = k
      · rw [if_pos e, if_pos e]; rfl
      · rw [if_neg e, if_neg e]
        have hj : aI (gI G) k j = true := hj
        rw [aI, if_neg e] at hj; exact b4 j hj
    · rw [ar_a, upd_at, if_pos rfl]; rfl
  | some a =>
    have hIa : gI G a = true := (hl a rfl).1.1
    have ha64 : a < 64 := (hw.1 a hIa).1
    have hak : a ≠ k := fun e => by rw [e, hI] at hIa; cases hIa
    by_cases hlt : a < k
    · obtain ⟨x2, g1, g2, g3, g4, g5, g6⟩ := rm_hangsR (x := x1) ht (Bd_s hk) ha64
      refine ⟨x2, by rw [enc_s, if_pos (nI_pos' (by omega)), if_pos (nI_le (by omega) (by omega)), ← enc_s k, g1]; rfl, ⟨?_, ?_, ?_, ?_, ?_⟩, by rw [g6.2.1 8 (by decide)]; exact c8, by rw [g6.2.1 9 (by decide)]; exact c9, f1.tr (g6.mono (fun _ h => h) (by decide))⟩
      · intro j hj; rw [g5, c7]; exact r7 j hj
      · intro j hj
        rw [g4, c5, upd_at]
        show _ = enc (aL (gL G) k (some a) j)
        rw [aL]
        by_cases e : j = k
        · rw [if_pos e, if_pos e]; rfl
        · rw [if_neg e, if_neg e, if_neg (fun q => by obtain ⟨q1, q2⟩ := q; cases q1; omega)]
          have hj : aI (gI G) k j = true := hj
          rw [aI, if_neg e] at hj; exact b5 j hj
      · intro j hj
        rw [g2, upd_at, c6, upd_at]
        show _ = enc (aR (gR G) k (some a) j)
        rw [aR]
        by_cases e : j = k
        · rw [if_neg (by rw [e]; exact hak.symm), if_pos e, if_pos e]; rfl
        · rw [if_neg e]
          by_cases e2 : j = a
          · rw [if_pos e2, if_neg e, if_pos ⟨by rw [e2], by omega⟩]
          · rw [if_neg e2, if_neg e, if_neg (fun q => e2 (Option.some.inj q.1).symm)]
            have hj : aI (gI G) k j = true := hj
            rw [aI, if_neg e] at hj; exact b6 j hj
      · intro j hj
        rw [g3]
        show upd (sl x1 4 t) k (nI a) j = enc (aU (gU G) k (some a) j)
        rw [c4, upd_at, upd_at, aU]
        by_cases e : j = k
        · rw [if_pos e, if_pos e]; rfl
        · rw [if_neg e, if_neg e, if_neg e]
          have hj : aI (gI G) k j = true := hj
          rw [aI, if_neg e] at hj; exact b4 j hj
      · rw [g6.2.1 3 (by decide), c3]; exact b3
    · obtain ⟨x2, g1, g2, g3, g4, g5, g6⟩ := rm_hangsL (x := x1) ht (Bd_s hk) ha64
      refine ⟨x2, by rw [enc_s, if_pos (nI_pos' (by omega)), if_neg (nI_ge (by omega) (by omega)), ← enc_s k, g1]; rfl, ⟨?_, ?_, ?_, ?_, ?_⟩, by rw [g6.2.1 8 (by decide)]; exact c8, by rw [g6.2.1 9 (by decide)]; exact c9, f1.tr (g6.mono (fun _ h => h) (by decide))⟩
      · intro j hj; rw [g5, c7]; exact r7 j hj
      · intro j hj
        rw [g2, upd_at, c5, upd_at]
        show _ = enc (aL (gL G) k (some a) j)
        rw [aL]
        by_cases e : j = k
        · rw [if_neg (by rw [e]; exact hak.symm), if_pos e, if_pos e]; rfl
        · rw [if_neg e]
          by_cases e2 : j = a
          · rw [if_pos e2, if_neg e, if_pos ⟨by rw [e2], by omega⟩]
          · rw [if_neg e2, if_neg e, if_neg (fun q => e2 (Option.some.inj q.1).symm)]
            have hj : aI (gI G) k j = true := hj
            rw [aI, if_neg e] at hj; exact b5 j hj
      · intro j hj
        rw [g4, c6, upd_at]
        show _ = enc (aR (gR G) k (some a) j)
        rw [aR]
        by_cases e : j = k
        · rw [if_pos e, if_pos e]; rfl
        · rw [if_neg e, if_neg e, if_neg (fun q => by obtain ⟨q1, q2⟩ := q; cases q1; omega)]
          have hj : aI (gI G) k j = true := hj
          rw [aI, if_neg e] at hj; exact b6 j hj
      · intro j hj
        rw [g3]
        show upd (sl x1 4 t) k (nI a) j = enc (aU (gU G) k (some a) j)
        rw [c4, upd_at, upd_at, aU]
        by_cases e : j = k
        · rw [if_pos e, if_pos e]; rfl
        · rw [if_neg e, if_neg e, if_neg e]
          have hj : aI (gI G) k j = true := hj
          rw [aI, if_neg e] at hj; exact b4 j hj
      · rw [g6.2.1 3 (by decide), c3]; exact b3
end AD
