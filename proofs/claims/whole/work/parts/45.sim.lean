/-- the picture of one tree: links, root, keys in, intervals, sizes -/
abbrev Gh : Type := (Nat → Option Nat) × (Nat → Option Nat) × (Nat → Option Nat) × Option Nat × (Nat → Bool) × (Nat → Nat) × (Nat → Nat) × (Nat → Nat)
def gL (G : Gh) : Nat → Option Nat := G.1
def gR (G : Gh) : Nat → Option Nat := G.2.1
def gU (G : Gh) : Nat → Option Nat := G.2.2.1
def gr (G : Gh) : Option Nat := G.2.2.2.1
def gI (G : Gh) : Nat → Bool := G.2.2.2.2.1
def glo (G : Gh) : Nat → Nat := G.2.2.2.2.2.1
def ghi (G : Gh) : Nat → Nat := G.2.2.2.2.2.2.1
def gs (G : Gh) : Nat → Nat := G.2.2.2.2.2.2.2
def GW (G : Gh) : Prop := WF (gL G) (gR G) (gU G) (gr G) (gI G) (glo G) (ghi G)
def GN (G : Gh) : Prop := NI (gL G) (gR G) (gU G) (gI G)
def GS (G : Gh) : Prop := SZ (gL G) (gR G) (gI G) (gs G)
/-- the reference's tree t and the class's shape are the same tree -/
def Sim (t : Nat) (x y : Ob) (G : Gh) : Prop := GW G ∧ GN G ∧ GS G ∧ RepS y (gL G) (gR G) (gU G) (gs G) (gr G) (x.2 9 t) ∧ RepM x t (gL G) (gR G) (gU G) (gr G) (gI G)
def gturn (G : Gh) (k u : Nat) : Gh := (tL (gL G) k u (if k < u then gR G k else gL G k) (gU G u), tR (gR G) k u (if k < u then gR G k else gL G k) (gU G u), tU (gU G) k u (if k < u then gR G k else gL G k) (gU G u), (if gU G u = none then some k else gr G), gI G, tlo (glo G) k u, thi (ghi G) k u, tsz (gL G) (gR G) (gs G) k u)
abbrev TC : List Nat := [3, 4, 5, 6, 9]
section SM
variable {t : Nat} {x y : Ob} {G : Gh}
theorem Sim.turn (h : Sim t x y G) (ht : t < 8) {k u : Nat} (hk : gI G k = true) (hu : gU G k = some u) : ∃ x' y', fX6_turn (nI t) (nI k) x = some x' ∧ fX3_turn (nI k) y = some y' ∧ Sim t x' y' (gturn G k u) ∧ Fr [] TC t x x' ∧ y'.2 4 = y.2 4 := by
  obtain ⟨h1, h2, h3, h4, h5⟩ := h
  obtain ⟨x', a1, a2, a3, a4⟩ := rm_turn h1 h5 ht hk hu
  obtain ⟨y', b1, b2, b3⟩ := rs_turn h1 h2 h3 h4 hk hu
  exact ⟨x', y', a1, b1, ⟨WF.turn h1 hk hu, NI.turn h1 h2 hk hu, SZ.turn h1 h3 hk hu, by rw [a3]; exact b2, a2⟩, a4, b3⟩
theorem GW.wide (h : GW G) {k u : Nat} (hk : gI G k = true) (hu : gU G k = some u) : gI G u = true ∧ ghi G k - glo G k < ghi G u - glo G u := by
  obtain ⟨hIu, hu64, hk64, hside⟩ := WF.side h hk hu
  have a1 := h.1 k hk
  have a2 := h.1 u hIu
  exact ⟨hIu, by omega⟩
theorem gturn_lo (G : Gh) (k u : Nat) : glo (gturn G k u) k = glo G u := by
  show tlo (glo G) k u k = _
  rw [tlo, if_pos rfl]
theorem gturn_hi (G : Gh) (k u : Nat) : ghi (gturn G k u) k = ghi G u := by
  show thi (ghi G) k u k = _
  rw [thi, if_pos rfl]
theorem gturn_U (G : Gh) (k u : Nat) : gU (gturn G k u) k = gU G u := by
  show tU (gU G) k u _ _ k = _
  rw [tU, if_pos rfl]
theorem Sim.k64 (h : Sim t x y G) {k : Nat} (hk : gI G k = true) : k < 64 := (h.1.1 k hk).1
theorem Sim.above (h : Sim t x y G) {k : Nat} (hk : gI G k = true) : x.2 4 (64 * t + k) = enc (gU G k) := h.2.2.2.2.2.2.2.1 k hk
theorem Sim.upOf (h : Sim t x y G) {k : Nat} (hk : gI G k = true) : fX3_upOf (nI k) y = some (enc (gU G k)) := by
  have := rs_up h.2.2.2.1 (Bd_s (h.k64 hk)); rw [enc_s, Option.bind_some] at this; exact this
theorem Sim.bU (h : Sim t x y G) (k : Nat) : Bd (gU G k) := WF.bU h.1 h.2.1 k
theorem st64 {st : Nat} (h : st < 64) : ¬ (64 : Int32) ≤ nI st := nI_ge (b := 64) h (by decide)
theorem sim_raise (ht : t < 8) {k : Nat} : ∀ (m : Nat) (x y : Ob) (G : Gh), Sim t x y G → gI G k = true → 64 ≤ m + (ghi G k - glo G k) → ∀ n1 n2 st : Nat, m < n1 → m < n2 → st + m < 64 →
    ∃ x' y' G', fX6_rises_L0 n1 (nI t) (nI k) x = some x' ∧ fX4_raiseToRoot_L2 n2 (nI k) (nI st) y = some y' ∧ Sim t x' y' G' ∧ gI G' = gI G ∧ gU G' k = none ∧ Fr [] TC t x x' ∧ y'.2 4 = y.2 4 := by
  intro m
  induction m with
  | zero =>
    intro x y G h hk hwd n1 n2 st h1 h2 h3
    cases hU : gU G k with
    | some u =>
      obtain ⟨hIu, hw⟩ := h.1.wide hk hU
      have := h.1.1 u hIu
      omega
    | none =>
      obtain ⟨n1, rfl⟩ := Nat.exists_eq_succ_of_ne_zero (by omega : n1 ≠ 0)
      obtain ⟨n2, rfl⟩ := Nat.exists_eq_succ_of_ne_zero (by omega : n2 ≠ 0)
      refine ⟨x, y, G, ?_, ?_, h, rfl, hU, Fr.rf _ _ _ _, rfl⟩
      · rw [fX6_rises_L0, ix6 ht (h.k64 hk), h.above hk, hU, enc_n, if_pos m1_lt]
      · rw [fX4_raiseToRoot_L2, if_neg (st64 (by omega)), h.upOf hk, Option.bind_some, hU, enc_n, if_pos rfl]
  | succ m ih =>
    intro x y G h hk hwd n1 n2 st h1 h2 h3
    obtain ⟨n1, rfl⟩ := Nat.exists_eq_succ_of_ne_zero (by omega : n1 ≠ 0)
    obtain ⟨n2, rfl⟩ := Nat.exists_eq_succ_of_ne_zero (by omega : n2 ≠ 0)
    cases hU : gU G k with
    | none =>
      refine ⟨x, y, G, ?_, ?_, h, rfl, hU, Fr.rf _ _ _ _, rfl⟩
      · rw [fX6_rises_L0, ix6 ht (h.k64 hk), h.above hk, hU, enc_n, if_pos m1_lt]
      · rw [fX4_raiseToRoot_L2, if_neg (st64 (by omega)), h.upOf hk, Option.bind_some, hU, enc_n, if_pos rfl]
    | some u =>
      obtain ⟨hIu, hw⟩ := h.1.wide hk hU
      have hb : Bd (some u) := by rw [← hU]; exact h.bU k
      obtain ⟨x1, y1, a1, a2, a3, a4, a5⟩ := h.turn ht hk hU
      obtain ⟨x', y', G', b1, b2, b3, b4, b5, b6, b7⟩ := ih x1 y1 (gturn G k u) a3 hk (by rw [gturn_lo, gturn_hi]; omega) n1 n2 (st + 1) (by omega) (by omega) (by omega)
      refine ⟨x', y', G', ?_, ?_, b3, b4, b5, a4.tr b6, b7.trans a5⟩
      · rw [fX6_rises_L0, ix6 ht (h.k64 hk), h.above hk, hU, if_neg (fun e => by rw [enc_lt0 hb] at e; cases e), a1, Option.bind_some, b1]
      · rw [fX4_raiseToRoot_L2, if_neg (st64 (by omega)), h.upOf hk, Option.bind_some, hU, if_neg (fun e => by rw [enc_m1 hb] at e; cases e), a2, Option.bind_some, px_let, nI_1, b2]
theorem fu64 : 64 < FU := by decide
theorem Sim.raise (h : Sim t x y G) (ht : t < 8) {k : Nat} (hk : gI G k = true) : ∃ x' y' G', fX6_rises (nI t) (nI k) x = some x' ∧ fX4_raiseToRoot (nI k) y = some y' ∧ Sim t x' y' G' ∧ gI G' = gI G ∧ gU G' k = none ∧ Fr [] TC t x x' ∧ y'.2 4 = y.2 4 := by
  have a := h.1.1 k hk
  obtain ⟨x', y', G', b1, b2, b3⟩ := sim_raise ht 63 x y G h hk (by omega) FU FU 0 (by have := fu64; omega) (by have := fu64; omega) (by omega)
  exact ⟨x', y', G', b1, b2, b3⟩
theorem zz (a b : Nat) (ha : a < 64) (hb : b < 64) : (nI a ≤ nI b) ↔ a ≤ b := nI_leI (by omega) (by omega)
theorem sim_splay (ht : t < 8) {k : Nat} : ∀ (m : Nat) (x y : Ob) (G : Gh), Sim t x y G → gI G k = true → 64 ≤ m + (ghi G k - glo G k) → ∀ n1 n2 st : Nat, m < n1 → m < n2 → st + m < 64 →
    ∃ x' y' G', fX6_splays_L0 n1 (nI t) (nI k) x = some x' ∧ fX4_splay_L2 n2 (nI k) (nI st) y = some y' ∧ Sim t x' y' G' ∧ gI G' = gI G ∧ Fr [] TC t x x' ∧ y'.2 4 = y.2 4 := by
  intro m
  induction m with
  | zero =>
    intro x y G h hk hwd n1 n2 st h1 h2 h3
    cases hU : gU G k with
    | some u =>
      obtain ⟨hIu, hw⟩ := h.1.wide hk hU
      have := h.1.1 u hIu
      omega
    | none =>
      obtain ⟨n1, rfl⟩ := Nat.exists_eq_succ_of_ne_zero (by omega : n1 ≠ 0)
      obtain ⟨n2, rfl⟩ := Nat.exists_eq_succ_of_ne_zero (by omega : n2 ≠ 0)
      refine ⟨x, y, G, ?_, ?_, h, rfl, Fr.rf _ _ _ _, rfl⟩
      · rw [fX6_splays_L0, ix6 ht (h.k64 hk), h.above hk, hU, enc_n, if_pos m1_lt]
      · rw [fX4_splay_L2, if_neg (st64 (by omega)), h.upOf hk, Option.bind_some, hU, enc_n, if_pos rfl]
  | succ m ih =>
    intro x y G h hk hwd n1 n2 st h1 h2 h3
    obtain ⟨n1, rfl⟩ := Nat.exists_eq_succ_of_ne_zero (by omega : n1 ≠ 0)
    obtain ⟨n2, rfl⟩ := Nat.exists_eq_succ_of_ne_zero (by omega : n2 ≠ 0)
    have hk64 := h.k64 hk
    cases hU : gU G k with
    | none =>
      refine ⟨x, y, G, ?_, ?_, h, rfl, Fr.rf _ _ _ _, rfl⟩
      · rw [fX6_splays_L0, ix6 ht (h.k64 hk), h.above hk, hU, enc_n, if_pos m1_lt]
      · rw [fX4_splay_L2, if_neg (st64 (by omega)), h.upOf hk, Option.bind_some, hU, enc_n, if_pos rfl]
    | some u =>
      obtain ⟨hIu, hw⟩ := h.1.wide hk hU
      have hu64 := h.k64 hIu
      have hb : Bd (some u) := by rw [← hU]; exact h.bU k
      have bV := h.bU u
      have g1 : ¬ enc (some u) < 0 := fun e => by rw [enc_lt0 hb] at e; cases e
      have g2 : ¬ enc (some u) = -1 := fun e => by rw [enc_m1 hb] at e; cases e
      cases hV : gU G u with
      | none =>
        obtain ⟨x1, y1, a1, a2, a3, a4, a5⟩ := h.turn ht hk hU
        obtain ⟨x', y', G', b1, b2, b3, b4, b6, b7⟩ := ih x1 y1 (gturn G k u) a3 hk (by rw [gturn_lo, gturn_hi]; omega) n1 n2 (st + 1) (by omega) (by omega) (by omega)
        refine ⟨x', y', G', ?_, ?_, b3, b4, a4.tr b6, b7.trans a5⟩
        · rw [fX6_splays_L0, ix6 ht hk64, h.above hk, hU, if_neg g1, ix6 ht hk64, px_let, h.above hk, hU, enc_s, ix6 ht hu64, px_let, h.above hIu, hV, enc_n, if_pos m1_lt, fX6_splays_J78, a1, Option.bind_some, b1]
        · rw [fX4_splay_L2, if_neg (st64 (by omega)), h.upOf hk, Option.bind_some, hU, if_neg g2, Option.bind_some, enc_s, h.upOf hIu, Option.bind_some, hV, enc_n, if_pos rfl, a2, Option.bind_some, fX4_splay_J115, px_let, nI_1, b2]
      | some v =>
        obtain ⟨hIv, hwv⟩ := h.1.wide hIu hV
        have hv64 := h.k64 hIv
        rw [hV] at bV
        have g3 : ¬ enc (some v) < 0 := fun e => by rw [enc_lt0 bV] at e; cases e
        have g4 : ¬ enc (some v) = -1 := fun e => by rw [enc_m1 bV] at e; cases e
        obtain ⟨-, -, -, sk⟩ := WF.side h.1 hk hU
        obtain ⟨-, -, -, su⟩ := WF.side h.1 hIu hV
        have hne1 : k ≠ u := by omega
        have hne2 : u ≠ v := by omega
        have hkv : k ≠ v := by intro e; subst e; omega
        by_cases hsame : (k < u ↔ u < v)
        · -- the upper one first
          obtain ⟨x1, y1, a1, a2, a3, a4, a5⟩ := h.turn ht hIu hV
          have hU1 : gU (gturn G u v) k = some u := by
            show tU (gU G) u v _ _ k = _
            rw [tU, if_neg hne1, if_neg hkv, if_neg, hU]
            intro e
            by_cases q : u < v
            · rw [if_pos q] at e
              have := (h.1.2.2.1 u k hIu e).2.2.1; have := h.1.1 k hk; have := hsame.mpr q; omega
            · rw [if_neg q] at e
              have := (h.1.2.1 u k hIu e).2.2.2; have := h.1.1 k hk; have : ¬ k < u := fun z => q (hsame.mp z)
              omega
          obtain ⟨x2, y2, c1, c2, c3, c4, c5⟩ := a3.turn ht hk hU1
          have hlo : glo (gturn (gturn G u v) k u) k = glo G v := by rw [gturn_lo, gturn_lo]
          have hhi : ghi (gturn (gturn G u v) k u) k = ghi G v := by rw [gturn_hi, gturn_hi]
          obtain ⟨x', y', G', b1, b2, b3, b4, b6, b7⟩ := ih x2 y2 (gturn (gturn G u v) k u) c3 hk (by rw [hlo, hhi]; omega) n1 n2 (st + 1) (by omega) (by omega) (by omega)
          refine ⟨x', y', G', ?_, ?_, b3, b4, (a4.tr c4).tr b6, b7.trans (c5.trans a5)⟩
          · rw [fX6_splays_L0, ix6 ht hk64, h.above hk, hU, if_neg g1, ix6 ht hk64, px_let, h.above hk, hU, enc_s, ix6 ht hu64, px_let, h.above hIu, hV, if_neg g3, enc_s]
            by_cases q : u < v
            · have q2 := hsame.mpr q
              rw [if_neg (by rw [zz _ _ hu64 hk64]; omega), fX6_splays_J56, if_neg (by rw [zz _ _ hv64 hu64]; omega), fX6_splays_J67, if_pos rfl, fX6_splays_J75, a1, Option.bind_some, fX6_splays_J78, c1, Option.bind_some, b1]
            · have q2 : ¬ k < u := fun z => q (hsame.mp z)
              rw [if_pos (by rw [zz _ _ hu64 hk64]; omega), fX6_splays_J56, if_pos (by rw [zz _ _ hv64 hu64]; omega), fX6_splays_J67, if_pos rfl, fX6_splays_J75, a1, Option.bind_some, fX6_splays_J78, c1, Option.bind_some, b1]
          · rw [fX4_splay_L2, if_neg (st64 (by omega)), h.upOf hk, Option.bind_some, hU, if_neg g2, Option.bind_some, enc_s, h.upOf hIu, Option.bind_some, hV, if_neg g4, enc_s]
            by_cases q : u < v
            · have q2 := hsame.mpr q
              rw [if_neg (by rw [zz _ _ hu64 hk64]; omega), fX4_splay_J66, if_neg (by rw [zz _ _ hv64 hu64]; omega), fX4_splay_J77, if_pos rfl, a2, Option.bind_some, c2, Option.bind_some, fX4_splay_J115, px_let, nI_1, b2]
            · have q2 : ¬ k < u := fun z => q (hsame.mp z)
              rw [if_pos (by rw [zz _ _ hu64 hk64]; omega), fX4_splay_J66, if_pos (by rw [zz _ _ hv64 hu64]; omega), fX4_splay_J77, if_pos rfl, a2, Option.bind_some, c2, Option.bind_some, fX4_splay_J115, px_let, nI_1, b2]
        · obtain ⟨x1, y1, a1, a2, a3, a4, a5⟩ := h.turn ht hk hU
          have hU1 : gU (gturn G k u) k = some v := by rw [gturn_U, hV]
          obtain ⟨x2, y2, c1, c2, c3, c4, c5⟩ := a3.turn ht hk hU1
          have hlo : glo (gturn (gturn G k u) k v) k = glo G v := by
            rw [gturn_lo]
            show tlo (glo G) k u v = _
            rw [tlo, if_neg (Ne.symm hkv), if_neg (fun q => hne2 q.1.symm)]
          have hhi : ghi (gturn (gturn G k u) k v) k = ghi G v := by
            rw [gturn_hi]
            show thi (ghi G) k u v = _
            rw [thi, if_neg (Ne.symm hkv), if_neg (fun q => hne2 q.1.symm)]
          obtain ⟨x', y', G', b1, b2, b3, b4, b6, b7⟩ := ih x2 y2 (gturn (gturn G k u) k v) c3 hk (by rw [hlo, hhi]; omega) n1 n2 (st + 1) (by omega) (by omega) (by omega)
          refine ⟨x', y', G', ?_, ?_, b3, b4, (a4.tr c4).tr b6, b7.trans (c5.trans a5)⟩
          · rw [fX6_splays_L0, ix6 ht hk64, h.above hk, hU, if_neg g1, ix6 ht hk64, px_let, h.above hk, hU, enc_s, ix6 ht hu64, px_let, h.above hIu, hV, if_neg g3, enc_s]
            by_cases q : u < v
            · have q2 : ¬ k < u := fun z => hsame ⟨fun _ => q, fun _ => z⟩
              rw [if_pos (by rw [zz _ _ hu64 hk64]; omega), fX6_splays_J56, if_neg (by rw [zz _ _ hv64 hu64]; omega), fX6_splays_J67, if_neg (by decide), fX6_splays_J75, a1, Option.bind_some, fX6_splays_J78, c1, Option.bind_some, b1]
            · have q2 : k < u := by
                by_cases z : k < u
                · exact z
                · exact absurd ⟨fun w => absurd w z, fun w => absurd w q⟩ hsame
              rw [if_neg (by rw [zz _ _ hu64 hk64]; omega), fX6_splays_J56, if_pos (by rw [zz _ _ hv64 hu64]; omega), fX6_splays_J67, if_neg (by decide), fX6_splays_J75, a1, Option.bind_some, fX6_splays_J78, c1, Option.bind_some, b1]
          · rw [fX4_splay_L2, if_neg (st64 (by omega)), h.upOf hk, Option.bind_some, hU, if_neg g2, Option.bind_some, enc_s, h.upOf hIu, Option.bind_some, hV, if_neg g4, enc_s]
            by_cases q : u < v
            · have q2 : ¬ k < u := fun z => hsame ⟨fun _ => q, fun _ => z⟩
              rw [if_pos (by rw [zz _ _ hu64 hk64]; omega), fX4_splay_J66, if_neg (by rw [zz _ _ hv64 hu64]; omega), fX4_splay_J77, if_neg (by decide), a2, Option.bind_some, c2, Option.bind_some, fX4_splay_J115, px_let, nI_1, b2]
            · have q2 : k < u := by
                by_cases z : k < u
                · exact z
                · exact absurd ⟨fun w => absurd w z, fun w => absurd w q⟩ hsame
              rw [if_neg (by rw [zz _ _ hu64 hk64]; omega), fX4_splay_J66, if_pos (by rw [zz _ _ hv64 hu64]; omega), fX4_splay_J77, if_neg (by decide), a2, Option.bind_some, c2, Option.bind_some, fX4_splay_J115, px_let, nI_1, b2]
theorem Sim.splay (h : Sim t x y G) (ht : t < 8) {k : Nat} (hk : gI G k = true) : ∃ x' y' G', fX6_splays (nI t) (nI k) x = some x' ∧ fX4_splay (nI k) y = some y' ∧ Sim t x' y' G' ∧ gI G' = gI G ∧ Fr [] TC t x x' ∧ y'.2 4 = y.2 4 := by
  have a := h.1.1 k hk
  obtain ⟨x', y', G', b1, b2, b3⟩ := sim_splay ht 63 x y G h hk (by omega) FU FU 0 (by have := fu64; omega) (by have := fu64; omega) (by omega)
  exact ⟨x', y', G', b1, b2, b3⟩
/-- the ACT of kinds 1, 2, 3 -/
theorem Sim.act (h : Sim t x y G) (ht : t < 8) {T : Ob} (hT : x.2 2 t = T.1 0) {k : Nat} (hk : gI G k = true) : ∃ x' y' G', fX6_acts (nI t) (nI k) x = some x' ∧ fX4_act (nI k) T y = some y' ∧ Sim t x' y' G' ∧ gI G' = gI G ∧ Fr [] TC t x x' ∧ y'.2 4 = y.2 4 := by
  have hk64 := h.k64 hk
  have hne : ¬ nI k = -1 := nI_ne_m1 (by omega)
  by_cases k1 : T.1 0 = 1
  · obtain ⟨x', y', G', a1, a2, a3, a4, a5, a6⟩ := h.splay ht hk
    refine ⟨x', y', G', ?_, ?_, a3, a4, a5, a6⟩
    · rw [fX6_acts, ix_nI ht (by decide), hT, if_pos k1, a1]; rfl
    · rw [fX4_act, if_neg hne, if_pos k1, a2]; rfl
  · by_cases k2 : T.1 0 = 2
    · cases hU : gU G k with
      | none =>
        refine ⟨x, y, G, ?_, ?_, h, rfl, Fr.rf _ _ _ _, rfl⟩
        · rw [fX6_acts, ix_nI ht (by decide), hT, if_neg k1, ix_nI ht (by decide), hT, if_pos k2, ix6 ht hk64, h.above hk, hU, enc_n, if_pos m1_lt, fX6_acts_J52, ix_nI ht (by decide), hT, if_neg (by rw [k2]; decide)]
        · rw [fX4_act, if_neg hne, if_neg k1, if_pos k2, rs_turn0 h.2.2.2.1 hk64 hU]; rfl
      | some u =>
        obtain ⟨x1, y1, a1, a2, a3, a4, a5⟩ := h.turn ht hk hU
        have hb : Bd (some u) := by rw [← hU]; exact h.bU k
        refine ⟨x1, y1, _, ?_, ?_, a3, rfl, a4, a5⟩
        · rw [fX6_acts, ix_nI ht (by decide), hT, if_neg k1, ix_nI ht (by decide), hT, if_pos k2, ix6 ht hk64, h.above hk, hU, if_neg (fun e => by rw [enc_lt0 hb] at e; cases e), a1]; rfl
        · rw [fX4_act, if_neg hne, if_neg k1, if_pos k2, a2]; rfl
    · by_cases k3 : T.1 0 = 3
      · obtain ⟨x', y', G', a1, a2, a3, a4, -, a5, a6⟩ := h.raise ht hk
        refine ⟨x', y', G', ?_, ?_, a3, a4, a5, a6⟩
        · rw [fX6_acts, ix_nI ht (by decide), hT, if_neg k1, ix_nI ht (by decide), hT, if_neg k2, fX6_acts_J52, ix_nI ht (by decide), hT, if_pos k3, a1]; rfl
        · rw [fX4_act, if_neg hne, if_neg k1, if_neg k2, if_pos k3, a2]; rfl
      · refine ⟨x, y, G, ?_, ?_, h, rfl, Fr.rf _ _ _ _, rfl⟩
        · rw [fX6_acts, ix_nI ht (by decide), hT, if_neg k1, ix_nI ht (by decide), hT, if_neg k2, fX6_acts_J52, ix_nI ht (by decide), hT, if_neg k3]
        · rw [fX4_act, if_neg hne, if_neg k1, if_neg k2, if_neg k3]
end SM
