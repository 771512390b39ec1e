section RT
variable {L R U : Nat → Option Nat} {rt : Option Nat} {I : Nat → Bool} {lo hi : Nat → Nat} {sz : Nat → Nat} {y : Ob} {tn : Int32}
theorem WF.above (h : WF L R U rt I lo hi) {k u : Nat} (hk : I k = true) (hu : U k = some u) : ∀ j, U u = some j → j ≠ u ∧ j ≠ k ∧ (k < j ↔ u < j) := by
  intro j hj
  obtain ⟨hIu, hu64, hk64, hside⟩ := h.side hk hu
  obtain ⟨hIj, hj64, -, hside2⟩ := h.side hIu hj
  have a1 := h.1 k hk
  have a2 := h.1 u hIu
  omega
theorem oeq {a b c : Option Nat} (h : a = b) (e : b = c) : a = c := h.trans e
set_option maxHeartbeats 4000000 in
theorem rs_turn (hw : WF L R U rt I lo hi) (hn : NI L R U I) (hs : SZ L R I sz) (h : RepS y L R U sz rt tn) {k u : Nat} (hk : I k = true) (hu : U k = some u) :
    ∃ y', fX3_turn (nI k) y = some y' ∧ RepS y' (tL L k u (if k < u then R k else L k) (U u)) (tR R k u (if k < u then R k else L k) (U u)) (tU U k u (if k < u then R k else L k) (U u)) (tsz L R sz k u) (if U u = none then some k else rt) (tn + 1) ∧ y'.2 4 = y.2 4 := by
  obtain ⟨hIu, hu64, hk64, hside⟩ := hw.side hk hu
  have hab := hw.above hk hu
  have hne : k ≠ u := by omega
  have bU : Bd (U u) := hw.bU hn u
  have w2 := hw.turn hk hu
  have n2 := NI.turn hw hn hk hu
  have s1 := (hs k).1 hk
  have s2 := (hs u).1 hIu
  have e1 : fX3_upOf (nI k) y = some (nI u) := by
    have := rs_up h (Bd_s hk64); rw [enc_s, Option.bind_some, hu] at this; exact this
  have e2 : fX3_upOf (nI u) y = some (enc (U u)) := by
    have := rs_up h (Bd_s hu64); rw [enc_s, Option.bind_some] at this; exact this
  rcases hside with ⟨hlt, hL, i1, i2⟩ | ⟨hlt, hR, i1, i2⟩
  · have bR : Bd (R k) := hw.bR hn k
    have e3 : fX3_rightOf (nI k) y = some (enc (R k)) := by
      have := rs_right h (Bd_s hk64); rw [enc_s, Option.bind_some] at this; exact this
    obtain ⟨y1, f1, r1, o1⟩ := rs_hangL h bR (Bd_s hu64)
    obtain ⟨y2, f2, r2, o2⟩ := rs_hangR r1 (Bd_s hu64) (Bd_s hk64)
    obtain ⟨y3, f3, r3, o3⟩ := rs_hang r2 hk64 bU
    have q1 : hgL (ou L (some u) (R k)) k (U u) = tL L k u (if k < u then R k else L k) (U u) := by
      funext j
      show (if U u = some j ∧ k < j then some k else va_up L u (R k) j) = _
      rw [vup_at]; simp only [tL, hlt, if_true]
      have := hab j
      grind
    have q2 : hgR (ou R (some k) (some u)) k (U u) = tR R k u (if k < u then R k else L k) (U u) := by
      funext j
      show (if U u = some j ∧ ¬ k < j then some k else va_up R k (some u) j) = _
      rw [vup_at]; simp only [tR, hlt, if_true]
      have := hab j
      grind
    have q3 : va_up (ou (ou U (R k) (some u)) (some u) (some k)) k (U u) = tU U k u (if k < u then R k else L k) (U u) := by
      funext j
      simp only [tU, hlt, if_true]
      rw [vup_at]
      by_cases ej : j = k
      · rw [if_pos ej, if_pos ej]
      · rw [if_neg ej, if_neg ej]
        show va_up (ou U (R k) (some u)) u (some k) j = _
        rw [vup_at]
        by_cases eu : j = u
        · rw [if_pos eu, if_pos eu]
        · rw [if_neg eu, if_neg eu]
          cases hb : R k with
          | none => simp [ou]
          | some b =>
            show va_up U b (some u) j = _
            rw [vup_at]
            by_cases eb : j = b
            · rw [if_pos eb, if_pos (by rw [eb])]
            · rw [if_neg eb, if_neg (fun e => eb (Option.some.inj e).symm)]
    rw [q1, q2, q3] at r3
    obtain ⟨y4, f4, r4, o4⟩ := rs_resize r3 (w2.bL n2) (w2.bR n2) hu64
    obtain ⟨y5, f5, r5, o5⟩ := rs_resize r4 (w2.bL n2) (w2.bR n2) hk64
    refine ⟨ob_i y5 6 (y5.1 6 + 1), ?_, ?_, ?_⟩
    · rw [fX3_turn, e1, Option.bind_some, if_neg (nI_ne_m1 (by omega)), e2, Option.bind_some, if_neg (nI_ge hlt (by omega)), e3, Option.bind_some]
      rw [← enc_s u, f1, Option.bind_some, ← enc_s k, f2, Option.bind_some, fX3_turn_J58, enc_s, enc_s, f3, Option.bind_some, f4, Option.bind_some, f5, Option.bind_some]
      rfl
    · obtain ⟨z1, z2, z3, z4, z5, z6⟩ := r5
      refine ⟨z1, z2, z3, ?_, z5, ?_⟩
      · intro j hj
        refine (z4 j hj).trans (congrArg nI ?_)
        have x1 : tL L k u (if k < u then R k else L k) (U u) u = R k := by simp only [tL, hlt, if_true]
        have x2 : tR R k u (if k < u then R k else L k) (U u) u = R u := by
          simp only [tR, hlt, if_true]; rw [if_neg (Ne.symm hne), if_neg (by rintro ⟨a, b⟩; omega)]
        have x3 : tL L k u (if k < u then R k else L k) (U u) k = L k := by
          simp only [tL, hlt, if_true]; rw [if_neg hne, if_neg (by rintro ⟨a, b⟩; omega)]
        have x4 : tR R k u (if k < u then R k else L k) (U u) k = some u := by simp only [tR, hlt, if_true]
        rw [x1, x2, x3, x4, vup_at, tsz]
        by_cases ej : j = k
        · rw [if_pos ej, if_pos ej]
          have hLk : szo (va_up sz u (1 + szo sz (R k) + szo sz (R u))) (L k) = szo sz (L k) := by
            cases hl : L k with
            | none => rfl
            | some c =>
              show va_up sz u _ c = sz c
              rw [vup_at, if_neg]
              intro e; have := (hw.2.1 k c hk hl).2.2.2; have := hw.1 c (hw.2.1 k c hk hl).1; omega
          rw [hLk]
          show 1 + szo sz (L k) + va_up sz u _ u = _
          rw [vup_at, if_pos rfl, s2, hL]
          show _ = 1 + sz k + _
          rw [s1]; omega
        · rw [if_neg ej, if_neg ej, vup_at]
          by_cases eu : j = u
          · rw [if_pos eu, if_pos eu, if_pos hlt]; omega
          · rw [if_neg eu, if_neg eu]
      · show va_up y5.1 6 (y5.1 6 + 1) 6 = _
        rw [vup_at, if_pos rfl, z6]
    · show y5.2 4 = _
      rw [o5, o4, o3, o2, o1]
  · have hnl : ¬ k < u := by omega
    have bL : Bd (L k) := hw.bL hn k
    have e3 : fX3_leftOf (nI k) y = some (enc (L k)) := by
      have := rs_left h (Bd_s hk64); rw [enc_s, Option.bind_some] at this; exact this
    obtain ⟨y1, f1, r1, o1⟩ := rs_hangR h bL (Bd_s hu64)
    obtain ⟨y2, f2, r2, o2⟩ := rs_hangL r1 (Bd_s hu64) (Bd_s hk64)
    obtain ⟨y3, f3, r3, o3⟩ := rs_hang r2 hk64 bU
    have q1 : hgL (ou L (some k) (some u)) k (U u) = tL L k u (if k < u then R k else L k) (U u) := by
      funext j
      show (if U u = some j ∧ k < j then some k else va_up L k (some u) j) = _
      rw [vup_at]; simp only [tL, hnl, if_false]
      have := hab j
      grind
    have q2 : hgR (ou R (some u) (L k)) k (U u) = tR R k u (if k < u then R k else L k) (U u) := by
      funext j
      show (if U u = some j ∧ ¬ k < j then some k else va_up R u (L k) j) = _
      rw [vup_at]; simp only [tR, hnl, if_false]
      have := hab j
      grind
    have q3 : va_up (ou (ou U (L k) (some u)) (some u) (some k)) k (U u) = tU U k u (if k < u then R k else L k) (U u) := by
      funext j
      simp only [tU, hnl, if_false]
      rw [vup_at]
      by_cases ej : j = k
      · rw [if_pos ej, if_pos ej]
      · rw [if_neg ej, if_neg ej]
        show va_up (ou U (L k) (some u)) u (some k) j = _
        rw [vup_at]
        by_cases eu : j = u
        · rw [if_pos eu, if_pos eu]
        · rw [if_neg eu, if_neg eu]
          cases hb : L k with
          | none => simp [ou]
          | some b =>
            show va_up U b (some u) j = _
            rw [vup_at]
            by_cases eb : j = b
            · rw [if_pos eb, if_pos (by rw [eb])]
            · rw [if_neg eb, if_neg (fun e => eb (Option.some.inj e).symm)]
    rw [q1, q2, q3] at r3
    obtain ⟨y4, f4, r4, o4⟩ := rs_resize r3 (w2.bL n2) (w2.bR n2) hu64
    obtain ⟨y5, f5, r5, o5⟩ := rs_resize r4 (w2.bL n2) (w2.bR n2) hk64
    refine ⟨ob_i y5 6 (y5.1 6 + 1), ?_, ?_, ?_⟩
    · rw [fX3_turn, e1, Option.bind_some, if_neg (nI_ne_m1 (by omega)), e2, Option.bind_some, if_pos (nI_le (by omega) (by omega)), e3, Option.bind_some]
      rw [← enc_s u, f1, Option.bind_some, ← enc_s k, f2, Option.bind_some, fX3_turn_J58, enc_s, enc_s, f3, Option.bind_some, f4, Option.bind_some, f5, Option.bind_some]
      rfl
    · obtain ⟨z1, z2, z3, z4, z5, z6⟩ := r5
      refine ⟨z1, z2, z3, ?_, z5, ?_⟩
      · intro j hj
        refine (z4 j hj).trans (congrArg nI ?_)
        have x2 : tR R k u (if k < u then R k else L k) (U u) u = L k := by simp only [tR, hnl, if_false, if_true]
        have x1 : tL L k u (if k < u then R k else L k) (U u) u = L u := by
          simp only [tL, hnl, if_false]; rw [if_neg (Ne.symm hne), if_neg (by rintro ⟨a, b⟩; omega)]
        have x4 : tR R k u (if k < u then R k else L k) (U u) k = R k := by
          simp only [tR, hnl, if_false]; rw [if_neg hne, if_neg (by rintro ⟨a, b⟩; omega)]
        have x3 : tL L k u (if k < u then R k else L k) (U u) k = some u := by simp only [tL, hnl, if_false, if_true]
        rw [x1, x2, x3, x4, vup_at, tsz]
        by_cases ej : j = k
        · rw [if_pos ej, if_pos ej]
          have hRk : szo (va_up sz u (1 + szo sz (L u) + szo sz (L k))) (R k) = szo sz (R k) := by
            cases hl : R k with
            | none => rfl
            | some c =>
              show va_up sz u _ c = sz c
              rw [vup_at, if_neg]
              intro e; have := (hw.2.2.1 k c hk hl).2.2.1; have := hw.1 c (hw.2.2.1 k c hk hl).1; omega
          rw [hRk]
          show 1 + va_up sz u _ u + szo sz (R k) = _
          rw [vup_at, if_pos rfl, s2, hR]
          show _ = 1 + _ + sz k
          rw [s1]; omega
        · rw [if_neg ej, if_neg ej, vup_at]
          by_cases eu : j = u
          · rw [if_pos eu, if_pos eu, if_neg hnl]; omega
          · rw [if_neg eu, if_neg eu]
      · show va_up y5.1 6 (y5.1 6 + 1) 6 = _
        rw [vup_at, if_pos rfl, z6]
    · show y5.2 4 = _
      rw [o5, o4, o3, o2, o1]
theorem rs_turn0 (h : RepS y L R U sz rt tn) {k : Nat} (hk : k < 64) (hu : U k = none) : fX3_turn (nI k) y = some y := by
  have e1 : fX3_upOf (nI k) y = some (-1) := by
    have := rs_up h (Bd_s hk); rw [enc_s, Option.bind_some, hu] at this; exact this
  rw [fX3_turn, e1, Option.bind_some, if_pos rfl]
end RT
