section BA
variable {t : Nat} {x x' y T z : Ob} {G : Gh}
theorem deepL {d : Nat} (hd : d ≤ 64) (N : Int32) : ∀ (m k n1 n2 : Nat) (v2 two : Int64), d = m + k → m + 1 < n1 → m < n2 →
    ∃ r, (r = 0 ∨ r = 1) ∧ fX6_isDeep_L25 n1 (nI d) N v2 two 0 (nI k) = some r ∧ fX4_isTooDeep_L9 n2 (nI d) v2 (Int32.toInt64 N * two) (nI k) = some r := by
  intro m
  induction m with
  | zero =>
    intro k n1 n2 v2 two h1 h2 h3
    obtain ⟨n1, rfl⟩ := Nat.exists_eq_succ_of_ne_zero (by omega : n1 ≠ 0)
    obtain ⟨n2, rfl⟩ := Nat.exists_eq_succ_of_ne_zero (by omega : n2 ≠ 0)
    have q : nI d ≤ nI k := nI_le (by omega) (by omega)
    exact ⟨0, Or.inl rfl, by rw [fX6_isDeep_L25, if_pos q, if_pos (Or.inl rfl)], by rw [fX4_isTooDeep_L9, if_pos q]⟩
  | succ m ih =>
    intro k n1 n2 v2 two h1 h2 h3
    obtain ⟨n1, rfl⟩ := Nat.exists_eq_succ_of_ne_zero (by omega : n1 ≠ 0)
    obtain ⟨n2, rfl⟩ := Nat.exists_eq_succ_of_ne_zero (by omega : n2 ≠ 0)
    have q : ¬ nI d ≤ nI k := nI_ge (by omega) (by omega)
    have e : Int32.toInt64 N * two * 2 = Int32.toInt64 N * (two * 2) := Int64.mul_assoc _ _ _
    by_cases w : lg_cmp (v2 * 3) (Int32.toInt64 N * (two * 2)) ≤ 0
    · obtain ⟨r, r1, r2, r3⟩ := ih (k + 1) n1 n2 (v2 * 3) (two * 2) (by omega) (by omega) (by omega)
      refine ⟨r, r1, ?_, ?_⟩
      · rw [fX6_isDeep_L25, if_neg q, if_pos rfl, px_let, px_let, if_pos w, fX6_isDeep_J65, px_let, nI_1, r2]
      · rw [fX4_isTooDeep_L9, if_neg q, if_neg (st64 (by omega)), px_let, px_let, e, if_pos w, px_let, nI_1, r3]
    · refine ⟨1, Or.inr rfl, ?_, ?_⟩
      · obtain ⟨n1, rfl⟩ := Nat.exists_eq_succ_of_ne_zero (by omega : n1 ≠ 0)
        rw [fX6_isDeep_L25, if_neg q, if_pos rfl, px_let, px_let, if_neg w, fX6_isDeep_J65, px_let, nI_1, fX6_isDeep_L25]
        by_cases z : nI d ≤ nI (k + 1)
        · rw [if_pos z, if_pos (Or.inr rfl)]
        · rw [if_neg z, if_neg (by decide), if_pos (Or.inr rfl)]
      · rw [fX4_isTooDeep_L9, if_neg q, if_neg (st64 (by omega)), px_let, px_let, e, if_neg w]
theorem deep_eq {d n : Nat} (hd : d ≤ 64) (hd1 : 1 ≤ d) (hn : 1 ≤ n) (hn2 : n ≤ 64) : ∃ r, (r = 0 ∨ r = 1) ∧ fX6_isDeep (nI d) (nI n) = some r ∧ fX4_isTooDeep (nI d) (nI n) = some r := by
  obtain ⟨r, r1, r2, r3⟩ := deepL hd (nI n) (d - 1) 1 FU FU 1 1 (by omega) (by show d - 1 + 1 < 5000; omega) (by show d - 1 < 5000; omega)
  have e : Int32.toInt64 (nI n) * 1 = Int32.toInt64 (nI n) := Int64.mul_one _
  have c : lg_cmp 1 (Int32.toInt64 (nI n) * 1) ≤ 0 := by
    rw [e, nI_l (by omega)]
    have : ∀ n : Fin 65, 1 ≤ n.val → lg_cmp 1 (lN n.val) ≤ 0 := by decide
    exact this ⟨n, by omega⟩ hn
  refine ⟨r, r1, ?_, ?_⟩
  · rw [fX6_isDeep, if_pos c, fX6_isDeep_J20]; exact r2
  · rw [fX4_isTooDeep, px_let]; rw [e] at r3; exact r3
theorem Sim.held (h : Sim t x y G) : fX3_keysHeld y = some (nI (cnt (gI G) 0 64)) := by
  rw [fX3_keysHeld, h.2.2.2.1.2.2.2.2.1, rs_size h.2.2.2.1 (WF.brt h.1), Option.bind_some, GS.rt h.1 h.2.2.1]
theorem Sim.size6o (h : Sim t x y G) (ht : t < 8) {o : Option Nat} (ho : ∀ a, o = some a → gI G a = true) : fX6_sizeOf RD (nI t) (enc o) x = some (nI (szo (gs G) o)) := by
  cases o with
  | none => rw [enc_n, show RD = 69 + 1 from rfl, fX6_sizeOf, if_neg (by decide)]; rfl
  | some a => exact h.size6 ht (ho a rfl)
theorem Sim.chL (h : Sim t x y G) {k : Nat} (hk : gI G k = true) : ∀ a, gL G k = some a → gI G a = true := fun a ha => (h.1.2.1 k a hk ha).1
theorem Sim.chR (h : Sim t x y G) {k : Nat} (hk : gI G k = true) : ∀ a, gR G k = some a → gI G a = true := fun a ha => (h.1.2.2.1 k a hk ha).1
theorem szo_le (h : Sim t x y G) (o : Option Nat) : szo (gs G) o ≤ 64 := by
  cases o with
  | none => exact Nat.zero_le _
  | some a => exact h.sz a
theorem i3 (n : Nat) : (3 : Int32) * nI n = nI (3 * n) := pk_mul 3 n
theorem i2 (n : Nat) : (2 : Int32) * nI n = nI (2 * n) := pk_mul 2 n
theorem sim_leans (h : Sim t x y G) (ht : t < 8) {a : Nat} (ha : gI G a = true) : ∃ r, (r = 0 ∨ r = 1) ∧ fX6_leans (nI t) (nI a) x = some r ∧ fX4_isLopsided (nI a) y = some r := by
  have a64 := h.k64 ha
  have s := h.sz a
  have sL := szo_le h (gL G a)
  have sR := szo_le h (gR G a)
  have bL := WF.bL h.1 h.2.1 a
  have bR := WF.bR h.1 h.2.1 a
  have u6 : fX6_leans (nI t) (nI a) x = (if nI (2 * gs G a) < nI (3 * szo (gs G) (gL G a)) then some 1 else if nI (3 * szo (gs G) (gR G a)) ≤ nI (2 * gs G a) then some 0 else some 1) := by
    rw [fX6_leans, h.size6 ht ha, Option.bind_some, px_let, ix6 ht a64, h.left6 ha, h.size6o ht (h.chL ha), Option.bind_some, ix6 ht a64, h.right6 ha, h.size6o ht (h.chR ha), Option.bind_some, i2, i3, i3]
  have u4 : fX4_isLopsided (nI a) y = (if nI (3 * max (szo (gs G) (gL G a)) (szo (gs G) (gR G a))) ≤ nI (2 * gs G a) then some 0 else some 1) := by
    have em : (if nI (szo (gs G) (gL G a)) < nI (szo (gs G) (gR G a)) then nI (szo (gs G) (gR G a)) else nI (szo (gs G) (gL G a))) = nI (max (szo (gs G) (gL G a)) (szo (gs G) (gR G a))) := by
      by_cases q : szo (gs G) (gL G a) < szo (gs G) (gR G a)
      · rw [if_pos (nI_lt q (by omega)), Nat.max_eq_right (by omega)]
      · rw [if_neg (nI_nlt (by omega) (by omega)), Nat.max_eq_left (by omega)]
    rw [fX4_isLopsided, h.left3 a64, Option.bind_some, rs_size h.2.2.2.1 bL, Option.bind_some, h.right3 a64, Option.bind_some, rs_size h.2.2.2.1 bR, Option.bind_some, px_let, h.size3 a64, Option.bind_some, em, i3, i2]
  rw [u6, u4]
  by_cases q1 : 2 * gs G a < 3 * szo (gs G) (gL G a)
  · exact ⟨1, Or.inr rfl, by rw [if_pos (nI_lt q1 (by omega))], by rw [if_neg (nI_ge (by omega) (by omega))]⟩
  · by_cases q2 : 3 * szo (gs G) (gR G a) ≤ 2 * gs G a
    · exact ⟨0, Or.inl rfl, by rw [if_neg (nI_nlt (by omega) (by omega)), if_pos (nI_le q2 (by omega))], by rw [if_pos (nI_le (by omega) (by omega))]⟩
    · exact ⟨1, Or.inr rfl, by rw [if_neg (nI_nlt (by omega) (by omega)), if_neg (nI_ge (by omega) (by omega))], by rw [if_neg (nI_ge (by omega) (by omega))]⟩
theorem sim_lop (h : Sim t x y G) (ht : t < 8) : ∀ (m : Nat) (o : Option Nat) (n1 n2 st : Nat), (∀ a, o = some a → gI G a = true ∧ 65 ≤ m + wid G a) → m < n1 → m < n2 → st + m ≤ 64 →
    ∃ r : Option Nat, (∀ c, r = some c → gI G c = true) ∧ fX6_balances_L67 n1 (nI t) (enc o) x = fX6_balances_J95 (nI t) (enc r) x ∧ fX4_lopsidedAbove_L11 n2 (enc o) (nI st) y = some (enc r) := by
  intro m
  induction m with
  | zero =>
    intro o n1 n2 st h1 h2 h3 h4
    cases o with
    | none =>
      obtain ⟨n1, rfl⟩ := Nat.exists_eq_succ_of_ne_zero (by omega : n1 ≠ 0)
      obtain ⟨n2, rfl⟩ := Nat.exists_eq_succ_of_ne_zero (by omega : n2 ≠ 0)
      refine ⟨none, (fun c e => by cases e), ?_, ?_⟩
      · rw [fX6_balances_L67, enc_n, if_pos m1_lt]
      · rw [fX4_lopsidedAbove_L11, enc_n]
        by_cases q : (64 : Int32) ≤ nI st
        · rw [if_pos q]
        · rw [if_neg q, if_pos rfl]
    | some a => obtain ⟨q1, q2⟩ := h1 a rfl; have := h.1.w1 q1; omega
  | succ m ih =>
    intro o n1 n2 st h1 h2 h3 h4
    obtain ⟨n1, rfl⟩ := Nat.exists_eq_succ_of_ne_zero (by omega : n1 ≠ 0)
    obtain ⟨n2, rfl⟩ := Nat.exists_eq_succ_of_ne_zero (by omega : n2 ≠ 0)
    cases o with
    | none =>
      refine ⟨none, (fun c e => by cases e), ?_, ?_⟩
      · rw [fX6_balances_L67, enc_n, if_pos m1_lt]
      · rw [fX4_lopsidedAbove_L11, enc_n]
        by_cases q : (64 : Int32) ≤ nI st
        · rw [if_pos q]
        · rw [if_neg q, if_pos rfl]
    | some a =>
      obtain ⟨ha, hwd⟩ := h1 a rfl
      have a64 := h.k64 ha
      obtain ⟨r, r1, r2, r3⟩ := sim_leans h ht ha
      by_cases q : r = 0
      · subst q
        obtain ⟨r, f1, f2, f3⟩ := ih (gU G a) n1 n2 (st + 1) (fun u hu => by obtain ⟨w1, w2⟩ := h.1.wide ha hu; exact ⟨w1, by unfold wid at *; omega⟩) (by omega) (by omega) (by omega)
        refine ⟨r, f1, ?_, ?_⟩
        · rw [fX6_balances_L67, enc_s, if_neg (nI_pos (by omega)), r2, Option.bind_some, if_pos rfl, ix6 ht a64, px_let, h.above ha, f2]
        · rw [fX4_lopsidedAbove_L11, if_neg (st64 (by omega)), enc_s, if_neg (nI_ne_m1 (by omega)), r3, Option.bind_some, if_pos rfl, h.upOf ha, Option.bind_some, px_let, nI_1, f3]
      · refine ⟨some a, (fun c e => by cases e; exact ha), ?_, ?_⟩
        · rw [fX6_balances_L67, enc_s, if_neg (nI_pos (by omega)), r2, Option.bind_some, if_neg q]
        · rw [fX4_lopsidedAbove_L11, if_neg (st64 (by omega)), enc_s, if_neg (nI_ne_m1 (by omega)), r3, Option.bind_some, if_neg q]
abbrev EC : List Nat := [3, 4, 5, 6, 11, 14]
/-- evenOut of a key -/
theorem sim_evenOut (h : Sim t x y G) (ht : t < 8) (h4 : T.1 0 = 4) (hm : x.2 11 t = T.1 4) (h8 : x.2 8 t = nI (cnt (gI G) 0 64)) {c : Nat} (hc : gI G c = true) : ∃ (x' T' y' : Ob) (G' : Gh), fX6_makesEven (nI t) (nI c) x = some x' ∧ fX4_evenOut (nI c) T y = some (T', y') ∧ Sim t x' y' G' ∧ gI G' = gI G ∧ Fr [15] EC t x x' ∧ x'.2 11 t = T'.1 4 ∧ T'.1 0 = T.1 0 ∧ T'.1 3 = T.1 3 ∧ (T'.1 4 = T.1 4 ∨ T'.1 4 = nI (cnt (gI G) 0 64)) := by
  obtain ⟨x', y', G', a1, a2, a3, a4, a5, a6, a7⟩ := sim_makeEven h ht hc
  have c64 := h.k64 hc
  have e5 : y.1 5 = enc (gr G) := h.2.2.2.1.2.2.2.2.1
  have br := WF.brt h.1
  cases hU : gU G c with
  | none =>
    have r : gr G = some c := h.1.2.2.2.2.2.1 c hc hU
    refine ⟨x', ob_i T 4 (nI (cnt (gI G) 0 64)), y', G', a1, ?_, a3, a4, a5, ?_, rfl, rfl, Or.inr rfl⟩
    · rw [fX4_evenOut, if_pos (by rw [e5, r, enc_s]), fX4_evenOut_J16, a2, Option.bind_some, if_neg (by decide), fX4_beginMost, if_pos h4, a3.held, a4, Option.bind_some, fX4_beginMost_J20, px_let]; rfl
    · rw [a6 hU, h8]; rfl
  | some u =>
    have r : gr G ≠ some c := fun e => by have := (h.1.2.2.2.2.2.2.2.1 c e).2.1; rw [hU] at this; cases this
    refine ⟨x', T, y', G', a1, ?_, a3, a4, a5, ?_, rfl, rfl, Or.inl rfl⟩
    · rw [fX4_evenOut, if_neg (fun e => by rw [e5, ← enc_s c, enc_eq (Bd_s c64) br] at e; exact r e.symm), fX4_evenOut_J16, a2, Option.bind_some, if_pos rfl]
    · rw [a7 (by rw [hU]; simp)]; exact hm
end BA
