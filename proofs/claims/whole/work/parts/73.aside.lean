section RTB
variable {L R U : Nat → Option Nat} {rt : Option Nat} {I : Nat → Bool} {lo hi : Nat → Nat} {sz : Nat → Nat} {y : Ob} {tn : Int32}
theorem Bd_tL {k u : Nat} {b g : Option Nat} (bL : ∀ k, Bd (L k)) (hb : Bd b) (hk : k < 64) (hu : u < 64) (j : Nat) : Bd (tL L k u b g j) := by
  have := bL j
  have h1 := Bd_s hk
  have h2 := Bd_s hu
  unfold tL
  grind
theorem Bd_tR {k u : Nat} {b g : Option Nat} (bR : ∀ k, Bd (R k)) (hb : Bd b) (hk : k < 64) (hu : u < 64) (j : Nat) : Bd (tR R k u b g j) := by
  have := bR j
  have h1 := Bd_s hk
  have h2 := Bd_s hu
  unfold tR
  grind
theorem Bd_tU {k u : Nat} {b g : Option Nat} (bU : ∀ k, Bd (U k)) (hg : Bd g) (hk : k < 64) (hu : u < 64) (j : Nat) : Bd (tU U k u b g j) := by
  have := bU j
  have h1 := Bd_s hk
  have h2 := Bd_s hu
  unfold tU
  grind
set_option maxHeartbeats 4000000 in
theorem rs_turnB (hw : WF L R U rt I lo hi) (bbL : ∀ k, Bd (L k)) (bbR : ∀ k, Bd (R k)) (bbU : ∀ k, Bd (U k)) (hs : ∀ k, I k = true → sz k = 1 + szo sz (L k) + szo sz (R k)) (h : RepS y L R U sz rt tn) {k u : Nat} (hk : I k = true) (hu : U k = some u) :
    ∃ y', fX3_turn (nI k) y = some y' ∧ RepS y' (tL L k u (if k < u then R k else L k) (U u)) (tR R k u (if k < u then R k else L k) (U u)) (tU U k u (if k < u then R k else L k) (U u)) (tsz L R sz k u) (if U u = none then some k else rt) (tn + 1) ∧ y'.2 4 = y.2 4 := by
  obtain ⟨hIu, hu64, hk64, hside⟩ := hw.side hk hu
  have hab := hw.above hk hu
  have hne : k ≠ u := by omega
  have bU : Bd (U u) := bbU u
  have n2 := fun j => Bd_tL (g := U u) bbL (show Bd (if k < u then R k else L k) from by by_cases q : k < u; rw [if_pos q]; exact bbR k; rw [if_neg q]; exact bbL k) hk64 hu64 j
  have w2 := fun j => Bd_tR (g := U u) bbR (show Bd (if k < u then R k else L k) from by by_cases q : k < u; rw [if_pos q]; exact bbR k; rw [if_neg q]; exact bbL k) hk64 hu64 j
  have s1 := hs k hk
  have s2 := hs u hIu
  have e1 : fX3_upOf (nI k) y = some (nI u) := by
    have := rs_up h (Bd_s hk64); rw [enc_s, Option.bind_some, hu] at this; exact this
  have e2 : fX3_upOf (nI u) y = some (enc (U u)) := by
    have := rs_up h (Bd_s hu64); rw [enc_s, Option.bind_some] at this; exact this
  rcases hside with ⟨hlt, hL, i1, i2⟩ | ⟨hlt, hR, i1, i2⟩
  · have bR : Bd (R k) := bbR k
    have e3 : fX3_rightOf (nI k) y = some (enc (R k)) := by
      have := rs_right h (Bd_s hk64); rw [enc_s, Option.bind_some] at this; exact this
    obtain ⟨y1, f1, r1, o1⟩ := rs_hangL h bR (Bd_s hu64)
    obtain ⟨y2, f2, r2, o2⟩ := rs_hangR r1 (Bd_s hu64) (Bd_s hk64)
    obtain ⟨y3, f3, r3, o3⟩ := rs_hang r2 hk64 bU
    have q1 : hgL (ou L (some u) (R k)) k (U u) = tL L k u (if k < u then R k else L k) (U u) := by
      funext j
      show (if U u = some j ∧ k < j then some k else va_up L u (R k) j) = _
      rw [vup_at]; simp only [tL, hlt, if_true]
      have := hab j
      grind
    have q2 : hgR (ou R (some k) (some u)) k (U u) = tR R k u (if k < u then R k else L k) (U u) := by
      funext j
      show (if U u = some j ∧ ¬ k < j then some k else va_up R k (some u) j) = _
      rw [vup_at]; simp only [tR, hlt, if_true]
      have := hab j
      grind
    have q3 : va_up (ou (ou U (R k) (some u)) (some u) (some k)) k (U u) = tU U k u (if k < u then R k else L k) (U u) := by
      funext j
      simp only [tU, hlt, if_true]
      rw [vup_at]
      by_cases ej : j = k
      · rw [if_pos ej, if_pos ej]
      · rw [if_neg ej, if_neg ej]
        show va_up (ou U (R k) (some u)) u (some k) j = _
        rw [vup_at]
        by_cases eu : j = u
        · rw [if_pos eu, if_pos eu]
        · rw [if_neg eu, if_neg eu]
          cases hb : R k with
          | none => simp [ou]
          | some b =>
            show va_up U b (some u) j = _
            rw [vup_at]
            by_cases eb : j = b
            · rw [if_pos eb, if_pos (by rw [eb])]
            · rw [if_neg eb, if_neg (fun e => eb (Option.some.inj e).symm)]
    rw [q1, q2, q3] at r3
    obtain ⟨y4, f4, r4, o4⟩ := rs_resize r3 n2 w2 hu64
    obtain ⟨y5, f5, r5, o5⟩ := rs_resize r4 n2 w2 hk64
    refine ⟨ob_i y5 6 (y5.1 6 + 1), ?_, ?_, ?_⟩
    · rw [fX3_turn, e1, Option.bind_some, if_neg (nI_ne_m1 (by omega)), e2, Option.bind_some, if_neg (nI_ge hlt (by omega)), e3, Option.bind_some]
      rw [← enc_s u, f1, Option.bind_some, ← enc_s k, f2, Option.bind_some, fX3_turn_J58, enc_s, enc_s, f3, Option.bind_some, f4, Option.bind_some, f5, Option.bind_some]
      rfl
    · obtain ⟨z1, z2, z3, z4, z5, z6⟩ := r5
      refine ⟨z1, z2, z3, ?_, z5, ?_⟩
      · intro j hj
        refine (z4 j hj).trans (congrArg nI ?_)
        have x1 : tL L k u (if k < u then R k else L k) (U u) u = R k := by simp only [tL, hlt, if_true]
        have x2 : tR R k u (if k < u then R k else L k) (U u) u = R u := by
          simp only [tR, hlt, if_true]; rw [if_neg (Ne.symm hne), if_neg (by rintro ⟨a, b⟩; omega)]
        have x3 : tL L k u (if k < u then R k else L k) (U u) k = L k := by
          simp only [tL, hlt, if_true]; rw [if_neg hne, if_neg (by rintro ⟨a, b⟩; omega)]
        have x4 : tR R k u (if k < u then R k else L k) (U u) k = some u := by simp only [tR, hlt, if_true]
        rw [x1, x2, x3, x4, vup_at, tsz]
        by_cases ej : j = k
        · rw [if_pos ej, if_pos ej]
          have hLk : szo (va_up sz u (1 + szo sz (R k) + szo sz (R u))) (L k) = szo sz (L k) := by
            cases hl : L k with
            | none => rfl
            | some c =>
              show va_up sz u _ c = sz c
              rw [vup_at, if_neg]
              intro e; have := (hw.2.1 k c hk hl).2.2.2; have := hw.1 c (hw.2.1 k c hk hl).1; omega
          rw [hLk]
          show 1 + szo sz (L k) + va_up sz u _ u = _
          rw [vup_at, if_pos rfl, s2, hL]
          show _ = 1 + sz k + _
          rw [s1]; omega
        · rw [if_neg ej, if_neg ej, vup_at]
          by_cases eu : j = u
          · rw [if_pos eu, if_pos eu, if_pos hlt]; omega
          · rw [if_neg eu, if_neg eu]
      · show va_up y5.1 6 (y5.1 6 + 1) 6 = _
        rw [vup_at, if_pos rfl, z6]
    · show y5.2 4 = _
      rw [o5, o4, o3, o2, o1]
  · have hnl : ¬ k < u := by omega
    have bL : Bd (L k) := bbL k
    have e3 : fX3_leftOf (nI k) y = some (enc (L k)) := by
      have := rs_left h (Bd_s hk64); rw [enc_s, Option.bind_some] at this; exact this
    obtain ⟨y1, f1, r1, o1⟩ := rs_hangR h bL (Bd_s hu64)
    obtain ⟨y2, f2, r2, o2⟩ := rs_hangL r1 (Bd_s hu64) (Bd_s hk64)
    obtain ⟨y3, f3, r3, o3⟩ := rs_hang r2 hk64 bU
    have q1 : hgL (ou L (some k) (some u)) k (U u) = tL L k u (if k < u then R k else L k) (U u) := by
      funext j
      show (if U u = some j ∧ k < j then some k else va_up L k (some u) j) = _
      rw [vup_at]; simp only [tL, hnl, if_false]
      have := hab j
      grind
    have q2 : hgR (ou R (some u) (L k)) k (U u) = tR R k u (if k < u then R k else L k) (U u) := by
      funext j
      show (if U u = some j ∧ ¬ k < j then some k else va_up R u (L k) j) = _
      rw [vup_at]; simp only [tR, hnl, if_false]
      have := hab j
      grind
    have q3 : va_up (ou (ou U (L k) (some u)) (some u) (some k)) k (U u) = tU U k u (if k < u then R k else L k) (U u) := by
      funext j
      simp only [tU, hnl, if_false]
      rw [vup_at]
      by_cases ej : j = k
      · rw [if_pos ej, if_pos ej]
      · rw [if_neg ej, if_neg ej]
        show va_up (ou U (L k) (some u)) u (some k) j = _
        rw [vup_at]
        by_cases eu : j = u
        · rw [if_pos eu, if_pos eu]
        · rw [if_neg eu, if_neg eu]
          cases hb : L k with
          | none => simp [ou]
          | some b =>
            show va_up U b (some u) j = _
            rw [vup_at]
            by_cases eb : j = b
            · rw [if_pos eb, if_pos (by rw [eb])]
            · rw [if_neg eb, if_neg (fun e => eb (Option.some.inj e).symm)]
    rw [q1, q2, q3] at r3
    obtain ⟨y4, f4, r4, o4⟩ := rs_resize r3 n2 w2 hu64
    obtain ⟨y5, f5, r5, o5⟩ := rs_resize r4 n2 w2 hk64
    refine ⟨ob_i y5 6 (y5.1 6 + 1), ?_, ?_, ?_⟩
    · rw [fX3_turn, e1, Option.bind_some, if_neg (nI_ne_m1 (by omega)), e2, Option.bind_some, if_pos (nI_le (by omega) (by omega)), e3, Option.bind_some]
      rw [← enc_s u, f1, Option.bind_some, ← enc_s k, f2, Option.bind_some, fX3_turn_J58, enc_s, enc_s, f3, Option.bind_some, f4, Option.bind_some, f5, Option.bind_some]
      rfl
    · obtain ⟨z1, z2, z3, z4, z5, z6⟩ := r5
      refine ⟨z1, z2, z3, ?_, z5, ?_⟩
      · intro j hj
        refine (z4 j hj).trans (congrArg nI ?_)
        have x2 : tR R k u (if k < u then R k else L k) (U u) u = L k := by simp only [tR, hnl, if_false, if_true]
        have x1 : tL L k u (if k < u then R k else L k) (U u) u = L u := by
          simp only [tL, hnl, if_false]; rw [if_neg (Ne.symm hne), if_neg (by rintro ⟨a, b⟩; omega)]
        have x4 : tR R k u (if k < u then R k else L k) (U u) k = R k := by
          simp only [tR, hnl, if_false]; rw [if_neg hne, if_neg (by rintro ⟨a, b⟩; omega)]
        have x3 : tL L k u (if k < u then R k else L k) (U u) k = some u := by simp only [tL, hnl, if_false, if_true]
        rw [x1, x2, x3, x4, vup_at, tsz]
        by_cases ej : j = k
        · rw [if_pos ej, if_pos ej]
          have hRk : szo (va_up sz u (1 + szo sz (L u) + szo sz (L k))) (R k) = szo sz (R k) := by
            cases hl : R k with
            | none => rfl
            | some c =>
              show va_up sz u _ c = sz c
              rw [vup_at, if_neg]
              intro e; have := (hw.2.2.1 k c hk hl).2.2.1; have := hw.1 c (hw.2.2.1 k c hk hl).1; omega
          rw [hRk]
          show 1 + va_up sz u _ u + szo sz (R k) = _
          rw [vup_at, if_pos rfl, s2, hR]
          show _ = 1 + _ + sz k
          rw [s1]; omega
        · rw [if_neg ej, if_neg ej, vup_at]
          by_cases eu : j = u
          · rw [if_pos eu, if_pos eu, if_neg hnl]; omega
          · rw [if_neg eu, if_neg eu]
      · show va_up y5.1 6 (y5.1 6 + 1) 6 = _
        rw [vup_at, if_pos rfl, z6]
    · show y5.2 4 = _
      rw [o5, o4, o3, o2, o1]
end RTB
/-- as Sim, but the class's Shape may hold other keys beside those of the tree -/
def Sm (t : Nat) (x y : Ob) (G : Gh) : Prop := GW G ∧ (∀ k, Bd (gL G k)) ∧ (∀ k, Bd (gR G k)) ∧ (∀ k, Bd (gU G k)) ∧ (∀ k, gI G k = true → gs G k = 1 + szo (gs G) (gL G k) + szo (gs G) (gR G k)) ∧ RepS y (gL G) (gR G) (gU G) (gs G) (gr G) (x.2 9 t) ∧ RepM x t (gL G) (gR G) (gU G) (gr G) (gI G)
/-- two pictures that are the same aside of the keys of the first -/
def Asd (G G' : Gh) : Prop := ∀ j, gI G j = false → gL G' j = gL G j ∧ gR G' j = gR G j ∧ gU G' j = gU G j ∧ gs G' j = gs G j
section SM6
variable {t : Nat} {x y : Ob} {G : Gh}
theorem Sm.turn (h : Sm t x y G) (ht : t < 8) {k u : Nat} (hk : gI G k = true) (hu : gU G k = some u) : ∃ x' y', fX6_turn (nI t) (nI k) x = some x' ∧ fX3_turn (nI k) y = some y' ∧ Sm t x' y' (gturn G k u) ∧ Asd G (gturn G k u) ∧ Fr [] TC t x x' := by
  obtain ⟨h1, bL, bR, bU, h3, h4, h5⟩ := h
  obtain ⟨hIu, hu64, hk64, hside⟩ := WF.side h1 hk hu
  obtain ⟨x', a1, a2, a3, a4⟩ := rm_turn h1 h5 ht hk hu
  obtain ⟨y', b1, b2, b3⟩ := rs_turnB h1 bL bR bU h3 h4 hk hu
  have bb : Bd (if k < u then gR G k else gL G k) := by
    by_cases q : k < u
    · rw [if_pos q]; exact bR k
    · rw [if_neg q]; exact bL k
  have cL : ∀ j c, gI G j = true → gL G j = some c → gI G c = true := fun j c q w => (h1.2.1 j c q w).1
  have cR : ∀ j c, gI G j = true → gR G j = some c → gI G c = true := fun j c q w => (h1.2.2.1 j c q w).1
  have hs0 : SZ (gL G) (gR G) (gI G) (fun j => if gI G j = true then gs G j else 0) := by
    have e : ∀ o : Option Nat, (∀ c, o = some c → gI G c = true) → szo (fun j => if gI G j = true then gs G j else 0) o = szo (gs G) o := fun o ho => by
      cases o with
      | none => rfl
      | some c => show (if gI G c = true then gs G c else 0) = gs G c; rw [if_pos (ho c rfl)]
    intro j
    refine ⟨fun hj => ?_, fun hj => ?_⟩
    · show (if gI G j = true then gs G j else 0) = _
      rw [if_pos hj, e _ (cL j · hj), e _ (cR j · hj)]; exact h3 j hj
    · show (if gI G j = true then gs G j else 0) = 0
      rw [if_neg (by rw [hj]; decide)]
  have hs1 := SZ.turn h1 hs0 hk hu
  have W := WF.turn h1 hk hu
  have tz : ∀ j, gI G j = true → tsz (gL G) (gR G) (fun j => if gI G j = true then gs G j else 0) k u j = tsz (gL G) (gR G) (gs G) k u j := by
    have e : ∀ o : Option Nat, (∀ c, o = some c → gI G c = true) → szo (fun j => if gI G j = true then gs G j else 0) o = szo (gs G) o := fun o ho => by
      cases o with
      | none => rfl
      | some c => show (if gI G c = true then gs G c else 0) = gs G c; rw [if_pos (ho c rfl)]
    intro j hj
    unfold tsz
    rw [e _ (cR k · hk), e _ (cR u · hIu), e _ (cL k · hk), e _ (cL u · hIu)]
    simp only [hj, hIu, if_true]
  have tz2 : ∀ o : Option Nat, (∀ c, o = some c → gI G c = true) → szo (tsz (gL G) (gR G) (fun j => if gI G j = true then gs G j else 0) k u) o = szo (tsz (gL G) (gR G) (gs G) k u) o := fun o ho => by
    cases o with
    | none => rfl
    | some c => exact tz c (ho c rfl)
  refine ⟨x', y', a1, b1, ⟨W, fun j => Bd_tL bL bb hk64 hu64 j, fun j => Bd_tR bR bb hk64 hu64 j, fun j => Bd_tU bU (bU u) hk64 hu64 j, fun j hj => ?_, by rw [a3]; exact b2, a2⟩, ?_, a4⟩
  · have := (hs1 j).1 hj
    rw [tz j hj, tz2 _ (fun c hc => (W.2.1 j c hj hc).1), tz2 _ (fun c hc => (W.2.2.1 j c hj hc).1)] at this
    exact this
  · intro j hj
    have jk : j ≠ k := fun e => by rw [e, hk] at hj; cases hj
    have ju : j ≠ u := fun e => by rw [e, hIu] at hj; cases hj
    have jg : gU G u ≠ some j := fun e => by have := (WF.side h1 hIu e).1; rw [hj] at this; cases this
    have jb : (if k < u then gR G k else gL G k) ≠ some j := fun e => by
      by_cases q : k < u
      · rw [if_pos q] at e; have := cR k j hk e; rw [hj] at this; cases this
      · rw [if_neg q] at e; have := cL k j hk e; rw [hj] at this; cases this
    refine ⟨?_, ?_, ?_, ?_⟩
    · show tL (gL G) k u _ _ j = _
      unfold tL
      by_cases q : k < u
      · rw [if_pos q, if_neg ju, if_neg (fun w => jg w.1)]
      · rw [if_neg q, if_neg jk, if_neg (fun w => jg w.1)]
    · show tR (gR G) k u _ _ j = _
      unfold tR
      by_cases q : k < u
      · rw [if_pos q, if_neg jk, if_neg (fun w => jg w.1)]
      · rw [if_neg q, if_neg ju, if_neg (fun w => jg w.1)]
    · show tU (gU G) k u _ _ j = _
      unfold tU
      rw [if_neg jk, if_neg ju, if_neg jb]
    · show tsz (gL G) (gR G) (gs G) k u j = _
      unfold tsz
      rw [if_neg jk, if_neg ju]
theorem Sm.k64 (h : Sm t x y G) {k : Nat} (hk : gI G k = true) : k < 64 := (h.1.1 k hk).1
theorem Sm.above (h : Sm t x y G) {k : Nat} (hk : gI G k = true) : x.2 4 (64 * t + k) = enc (gU G k) := h.2.2.2.2.2.2.2.2.2.1 k hk
theorem Sm.upOf (h : Sm t x y G) {k : Nat} (hk : gI G k = true) : fX3_upOf (nI k) y = some (enc (gU G k)) := by
  have := rs_up h.2.2.2.2.2.1 (Bd_s (h.k64 hk)); rw [enc_s, Option.bind_some] at this; exact this
theorem sm_raise (ht : t < 8) {k : Nat} : ∀ (m : Nat) (x y : Ob) (G : Gh), Sm t x y G → gI G k = true → 64 ≤ m + (ghi G k - glo G k) → ∀ n1 n2 st : Nat, m < n1 → m < n2 → st + m < 64 →
    ∃ x' y' G', fX6_rises_L0 n1 (nI t) (nI k) x = some x' ∧ fX4_raiseToRoot_L2 n2 (nI k) (nI st) y = some y' ∧ Sm t x' y' G' ∧ gI G' = gI G ∧ gU G' k = none ∧ Asd G G' ∧ Fr [] TC t x x' := by
  intro m
  induction m with
  | zero =>
    intro x y G h hk hwd n1 n2 st h1 h2 h3
    cases hU : gU G k with
    | some u =>
      obtain ⟨hIu, hw⟩ := h.1.wide hk hU
      have := h.1.1 u hIu
      omega
    | none =>
      obtain ⟨n1, rfl⟩ := Nat.exists_eq_succ_of_ne_zero (by omega : n1 ≠ 0)
      obtain ⟨n2, rfl⟩ := Nat.exists_eq_succ_of_ne_zero (by omega : n2 ≠ 0)
      refine ⟨x, y, G, ?_, ?_, h, rfl, hU, fun _ _ => ⟨rfl, rfl, rfl, rfl⟩, Fr.rf _ _ _ _⟩
      · rw [fX6_rises_L0, ix6 ht (h.k64 hk), h.above hk, hU, enc_n, if_pos m1_lt]
      · rw [fX4_raiseToRoot_L2, if_neg (st64 (by omega)), h.upOf hk, Option.bind_some, hU, enc_n, if_pos rfl]
  | succ m ih =>
    intro x y G h hk hwd n1 n2 st h1 h2 h3
    obtain ⟨n1, rfl⟩ := Nat.exists_eq_succ_of_ne_zero (by omega : n1 ≠ 0)
    obtain ⟨n2, rfl⟩ := Nat.exists_eq_succ_of_ne_zero (by omega : n2 ≠ 0)
    cases hU : gU G k with
    | none =>
      refine ⟨x, y, G, ?_, ?_, h, rfl, hU, fun _ _ => ⟨rfl, rfl, rfl, rfl⟩, Fr.rf _ _ _ _⟩
      · rw [fX6_rises_L0, ix6 ht (h.k64 hk), h.above hk, hU, enc_n, if_pos m1_lt]
      · rw [fX4_raiseToRoot_L2, if_neg (st64 (by omega)), h.upOf hk, Option.bind_some, hU, enc_n, if_pos rfl]
    | some u =>
      obtain ⟨hIu, hw⟩ := h.1.wide hk hU
      have hb : Bd (some u) := by rw [← hU]; exact h.2.2.2.1 k
      obtain ⟨x1, y1, a1, a2, a3, a4, a5⟩ := h.turn ht hk hU
      obtain ⟨x', y', G', b1, b2, b3, b4, b5, b6, b7⟩ := ih x1 y1 (gturn G k u) a3 hk (by rw [gturn_lo, gturn_hi]; omega) n1 n2 (st + 1) (by omega) (by omega) (by omega)
      refine ⟨x', y', G', ?_, ?_, b3, b4, b5, fun j hj => ?_, a5.tr b7⟩
      · rw [fX6_rises_L0, ix6 ht (h.k64 hk), h.above hk, hU, if_neg (fun e => by rw [enc_lt0 hb] at e; cases e), a1, Option.bind_some, b1]
      · rw [fX4_raiseToRoot_L2, if_neg (st64 (by omega)), h.upOf hk, Option.bind_some, hU, if_neg (fun e => by rw [enc_m1 hb] at e; cases e), a2, Option.bind_some, px_let, nI_1, b2]
      · have p := b6 j hj
        have q := a4 j hj
        exact ⟨p.1.trans q.1, p.2.1.trans q.2.1, p.2.2.1.trans q.2.2.1, p.2.2.2.trans q.2.2.2⟩
theorem Sm.raise (h : Sm t x y G) (ht : t < 8) {k : Nat} (hk : gI G k = true) : ∃ x' y' G', fX6_rises (nI t) (nI k) x = some x' ∧ fX4_raiseToRoot (nI k) y = some y' ∧ Sm t x' y' G' ∧ gI G' = gI G ∧ gU G' k = none ∧ Asd G G' ∧ Fr [] TC t x x' := by
  have a := h.1.1 k hk
  obtain ⟨x', y', G', b1, b2, b3⟩ := sm_raise ht 63 x y G h hk (by omega) FU FU 0 (by have := fu64; omega) (by have := fu64; omega) (by omega)
  exact ⟨x', y', G', b1, b2, b3⟩
end SM6
