section CC
variable {G : Gh} {c : Nat} {y y1 : Ob} {tn tn1 : Int32}
theorem c1_L (hw : GW G) (hc : c < 64) {j : Nat} (hj : gI G j = true) (h : j < c) : gL (gcut1 G c) j = gL G j := by
  cases hL : gL G j with
  | none =>
    refine fnd_no (fun d _ => ?_)
    cases q : chP (cI1 G c) (cU1 G c) j true d with
    | false => rfl
    | true =>
      obtain ⟨q1, q2, q3⟩ := chP_l.mp q
      obtain ⟨d1, d2⟩ := cI1_i.mp q1
      have bd := hw.1 d d1
      by_cases w : c ≤ ghi G d
      · rw [cU1_p d1 d2 w] at q2
        by_cases z : glo G d = 0
        · rw [if_pos z] at q2; cases q2
        · rw [if_neg z] at q2; have := Option.some.inj q2; omega
      · rw [cU1_n d1 d2 w] at q2
        obtain ⟨-, -, -, s⟩ := WF.side hw d1 q2
        rcases s with s | s
        · rw [hL] at s; cases s.2.1
        · omega
  | some d =>
    obtain ⟨d1, d2, d3, d4⟩ := hw.2.1 j d hj hL
    have bd := hw.1 d d1
    obtain ⟨-, -, -, s⟩ := WF.side (hw.cut1 hc) (k := d) (u := j) (cI1_i.mpr ⟨d1, by omega⟩) (by show cU1 G c d = some j; rw [cU1_n d1 (by omega) (by omega)]; exact d2)
    rcases s with s | s
    · exact s.2.1
    · omega
theorem c1_R (hw : GW G) (hc : c < 64) {j : Nat} (hj : gI G j = true) (h : ghi G j < c) : gR (gcut1 G c) j = gR G j := by
  have bj := hw.1 j hj
  cases hR : gR G j with
  | none =>
    refine fnd_no (fun d _ => ?_)
    cases q : chP (cI1 G c) (cU1 G c) j false d with
    | false => rfl
    | true =>
      obtain ⟨q1, q2, q3⟩ := chP_r.mp q
      obtain ⟨d1, d2⟩ := cI1_i.mp q1
      have bd := hw.1 d d1
      by_cases w : c ≤ ghi G d
      · rw [cU1_p d1 d2 w] at q2
        by_cases z : glo G d = 0
        · rw [if_pos z] at q2; cases q2
        · rw [if_neg z] at q2
          obtain ⟨e, e1, e2, e3⟩ := hw.loK 64 d d1 (by have := hw.w1 d1; omega) (by omega)
          have := Option.some.inj q2
          have : e = j := by omega
          subst this; omega
      · rw [cU1_n d1 d2 w] at q2
        obtain ⟨-, -, -, s⟩ := WF.side hw d1 q2
        rcases s with s | s
        · omega
        · rw [hR] at s; cases s.2.1
  | some d =>
    obtain ⟨d1, d2, d3, d4⟩ := hw.2.2.1 j d hj hR
    have bd := hw.1 d d1
    obtain ⟨-, -, -, s⟩ := WF.side (hw.cut1 hc) (k := d) (u := j) (cI1_i.mpr ⟨d1, by omega⟩) (by show cU1 G c d = some j; rw [cU1_n d1 (by omega) (by omega)]; exact d2)
    rcases s with s | s
    · omega
    · exact s.2.1
theorem c2_R (hw : GW G) (hc : c < 64) {j : Nat} (hj : gI G j = true) (h : c ≤ j) : gR (gcut2 G c) j = gR G j := by
  cases hR : gR G j with
  | none =>
    refine fnd_no (fun d _ => ?_)
    cases q : chP (cI2 G c) (cU2 G c) j false d with
    | false => rfl
    | true =>
      obtain ⟨q1, q2, q3⟩ := chP_r.mp q
      obtain ⟨d1, d2⟩ := cI2_i.mp q1
      have bd := hw.1 d d1
      by_cases w : glo G d ≤ c
      · rw [cU2_p d1 d2 w] at q2
        by_cases z : ghi G d = 64
        · rw [if_pos z] at q2; cases q2
        · rw [if_neg z] at q2; have := Option.some.inj q2; omega
      · rw [cU2_n d1 d2 w] at q2
        obtain ⟨-, -, -, s⟩ := WF.side hw d1 q2
        rcases s with s | s
        · omega
        · rw [hR] at s; cases s.2.1
  | some d =>
    obtain ⟨d1, d2, d3, d4⟩ := hw.2.2.1 j d hj hR
    have bd := hw.1 d d1
    obtain ⟨-, -, -, s⟩ := WF.side (hw.cut2 hc) (k := d) (u := j) (cI2_i.mpr ⟨d1, by omega⟩) (by show cU2 G c d = some j; rw [cU2_n d1 (by omega) (by omega)]; exact d2)
    rcases s with s | s
    · omega
    · exact s.2.1
theorem c2_L (hw : GW G) (hc : c < 64) {j : Nat} (hj : gI G j = true) (h : c < glo G j) : gL (gcut2 G c) j = gL G j := by
  have bj := hw.1 j hj
  cases hL : gL G j with
  | none =>
    refine fnd_no (fun d _ => ?_)
    cases q : chP (cI2 G c) (cU2 G c) j true d with
    | false => rfl
    | true =>
      obtain ⟨q1, q2, q3⟩ := chP_l.mp q
      obtain ⟨d1, d2⟩ := cI2_i.mp q1
      have bd := hw.1 d d1
      by_cases w : glo G d ≤ c
      · rw [cU2_p d1 d2 w] at q2
        by_cases z : ghi G d = 64
        · rw [if_pos z] at q2; cases q2
        · rw [if_neg z] at q2
          obtain ⟨e2, e3⟩ := hw.hiK 64 d d1 (by have := hw.w1 d1; omega) (by omega)
          have := Option.some.inj q2
          rw [this] at e3; omega
      · rw [cU2_n d1 d2 w] at q2
        obtain ⟨-, -, -, s⟩ := WF.side hw d1 q2
        rcases s with s | s
        · rw [hL] at s; cases s.2.1
        · omega
  | some d =>
    obtain ⟨d1, d2, d3, d4⟩ := hw.2.1 j d hj hL
    have bd := hw.1 d d1
    obtain ⟨-, -, -, s⟩ := WF.side (hw.cut2 hc) (k := d) (u := j) (cI2_i.mpr ⟨d1, by omega⟩) (by show cU2 G c d = some j; rw [cU2_n d1 (by omega) (by omega)]; exact d2)
    rcases s with s | s
    · exact s.2.1
    · omega
def aE (o : Option Nat) : Nat := match o with
  | none => 0
  | some e => e + 1
def bE (o : Option Nat) : Nat := match o with
  | none => 64
  | some e => e
/-- how far the cut has gone -/
def cutI (G : Gh) (c : Nat) (o lE hE : Option Nat) (L R U : Nat → Option Nat) (rt rt1 : Option Nat) : Prop :=
  (∀ a, o = some a → gI G a = true ∧ glo G a = aE lE ∧ ghi G a = bE hE) ∧ (o = none → ∀ j, gI G j = true → ¬ (aE lE ≤ j ∧ j < bE hE)) ∧
  (∀ e, lE = some e → gI G e = true ∧ e < c) ∧ (∀ e, hE = some e → gI G e = true ∧ c ≤ e) ∧
  (∀ j, U j = if gI G j = true ∧ (j < aE lE ∨ bE hE ≤ j) then cU G c j else gU G j) ∧
  (∀ j, L j = if gI G j = true ∧ bE hE < j then gL (gcut2 G c) j else gL G j) ∧
  (∀ j, R j = if gI G j = true ∧ j + 1 < aE lE then gR (gcut1 G c) j else gR G j) ∧
  (rt = if lE = none then none else gr (gcut1 G c)) ∧ (rt1 = if hE = none then none else gr (gcut2 G c))
theorem aE_le {o : Option Nat} (h : ∀ e, o = some e → e < c) : aE o ≤ c := by
  cases o with
  | none => exact Nat.zero_le _
  | some e => exact h e rfl
theorem bE_ge (hc : c < 64) {o : Option Nat} (h : ∀ e, o = some e → c ≤ e) : c ≤ bE o := by
  cases o with
  | none => show c ≤ 64; omega
  | some e => exact h e rfl
set_option maxHeartbeats 2000000 in
theorem cut_low (hw : GW G) (hn : GN G) (hc : c < 64) {a : Nat} {lE hE : Option Nat} {L R U : Nat → Option Nat} {rt rt1 : Option Nat} (h : cutI G c (some a) lE hE L R U rt rt1) (hac : a < c) : cutI G c (gR G a) (some a) hE (hgL L a lE) (hgR R a lE) (va_up U a lE) (if lE = none then some a else rt) rt1 := by
  obtain ⟨h1, h2, h3, h4, h5, h6, h7, h8, h9⟩ := h
  obtain ⟨ha, a1, a2⟩ := h1 a rfl
  have ba := hw.1 a ha
  have lA := aE_le (c := c) (o := lE) (fun e he => (h3 e he).2)
  have lB := bE_ge hc (o := hE) (fun e he => (h4 e he).2)
  have cUa : cU1 G c a = lE := by
    rw [cU1_p ha hac (by omega)]
    cases hl : lE with
    | none => rw [hl] at a1; rw [if_pos (show glo G a = 0 from a1)]
    | some e => rw [hl] at a1; rw [if_neg (by show ¬ glo G a = 0; rw [a1]; show ¬ e + 1 = 0; omega), a1]; rfl
  have sA : aE (some a) = a + 1 := rfl
  -- a key between the old end and a
  have bet : ∀ j, gI G j = true → aE lE ≤ j → j < a → ghi G j ≤ a := by
    intro j hj j1 j2
    exact ((hw.sub hj ⟨ha, by omega, by omega⟩ (by omega)).2.1 j2).2
  refine ⟨?_, ?_, ?_, h4, ?_, ?_, ?_, ?_, h9⟩
  · intro b hb
    obtain ⟨b1, b2, b3, b4⟩ := hw.2.2.1 a b ha hb
    exact ⟨b1, by rw [b3, sA], by omega⟩
  · intro hb j hj
    have := hw.2.2.2.2.1 a j ha hb hj
    rw [sA]; omega
  · intro e he; cases he; exact ⟨ha, hac⟩
  · intro j
    rw [vup_at, sA]
    by_cases e : j = a
    · rw [if_pos e, e, if_pos ⟨ha, Or.inl (by omega)⟩, cU, if_pos hac, cUa]
    · rw [if_neg e, h5 j]
      by_cases q : gI G j = true ∧ (j < aE lE ∨ bE hE ≤ j)
      · rw [if_pos q, if_pos ⟨q.1, by omega⟩]
      · rw [if_neg q]
        by_cases w : gI G j = true ∧ (j < a + 1 ∨ bE hE ≤ j)
        · rw [if_pos w]
          have hj := w.1
          have j1 : aE lE ≤ j := by
            rcases Nat.lt_or_ge j (aE lE) with z | z
            · exact absurd ⟨hj, Or.inl z⟩ q
            · exact z
          have j2 : j < a := by
            rcases w.2 with z | z
            · omega
            · exact absurd ⟨hj, Or.inr z⟩ q
          have := bet j hj j1 j2
          rw [cU, if_pos (by omega), cU1_n hj (by omega) (by omega)]
        · rw [if_neg w]
  · intro j
    have : hgL L a lE j = L j := by
      rw [hgL, if_neg]
      rintro ⟨q1, q2⟩
      have : aE lE = j + 1 := by rw [q1]; rfl
      omega
    rw [this]; exact h6 j
  · intro j
    rw [hgR, sA]
    by_cases e : lE = some j ∧ ¬ a < j
    · rw [if_pos e]
      have q3 := h3 j e.1
      have : aE lE = j + 1 := by rw [e.1]; rfl
      rw [if_pos ⟨q3.1, by omega⟩]
      obtain ⟨-, -, -, s⟩ := WF.side (hw.cut1 hc) (k := a) (u := j) (cI1_i.mpr ⟨ha, hac⟩) (by show cU1 G c a = some j; rw [cUa]; exact e.1)
      rcases s with s | s
      · omega
      · exact s.2.1.symm
    · rw [if_neg e, h7 j]
      by_cases q : gI G j = true ∧ j + 1 < aE lE
      · rw [if_pos q, if_pos ⟨q.1, by omega⟩]
      · rw [if_neg q]
        by_cases w : gI G j = true ∧ j + 1 < a + 1
        · rw [if_pos w]
          have hj := w.1
          have j1 : aE lE ≤ j := by
            rcases Nat.lt_or_ge j (aE lE) with z | z
            · exfalso
              have : j + 1 = aE lE := by
                rcases Nat.lt_or_ge (j + 1) (aE lE) with v | v
                · exact absurd ⟨hj, v⟩ q
                · omega
              cases hl : lE with
              | none => rw [hl] at z; exact absurd z (Nat.not_lt_zero j)
              | some e' =>
                rw [hl] at this
                have : j = e' := by have h : j + 1 = e' + 1 := this; omega
                exact e ⟨by rw [hl, this], by omega⟩
            · exact z
          have := bet j hj j1 (by omega)
          rw [c1_R hw hc hj (by omega)]
        · rw [if_neg w]
  · rw [if_neg (show (some a : Option Nat) ≠ none by simp)]
    by_cases e : lE = none
    · rw [if_pos e]
      exact ((hw.cut1 hc).2.2.2.2.2.1 a (cI1_i.mpr ⟨ha, hac⟩) (by show cU1 G c a = none; rw [cUa, e])).symm
    · rw [if_neg e, h8, if_neg e]
set_option maxHeartbeats 2000000 in
theorem cut_high (hw : GW G) (hn : GN G) (hc : c < 64) {a : Nat} {lE hE : Option Nat} {L R U : Nat → Option Nat} {rt rt1 : Option Nat} (h : cutI G c (some a) lE hE L R U rt rt1) (hac : c ≤ a) : cutI G c (gL G a) lE (some a) (ou L hE (some a)) R (va_up U a hE) rt (if hE = none then some a else rt1) := by
  obtain ⟨h1, h2, h3, h4, h5, h6, h7, h8, h9⟩ := h
  obtain ⟨ha, a1, a2⟩ := h1 a rfl
  have ba := hw.1 a ha
  have lA := aE_le (c := c) (o := lE) (fun e he => (h3 e he).2)
  have lB := bE_ge hc (o := hE) (fun e he => (h4 e he).2)
  have cUa : cU2 G c a = hE := by
    rw [cU2_p ha hac (by omega)]
    cases hl : hE with
    | none => rw [hl] at a2; rw [if_pos (show ghi G a = 64 from a2)]
    | some e => rw [hl] at a2; have q := h4 e hl; have := hw.1 e q.1; have a2 : ghi G a = e := a2; rw [if_neg (by omega), a2]
  have sB : bE (some a) = a := rfl
  have bet : ∀ j, gI G j = true → j < bE hE → a < j → a + 1 ≤ glo G j := by
    intro j hj j1 j2
    exact ((hw.sub hj ⟨ha, by omega, by omega⟩ (by omega)).2.2 j2).1
  refine ⟨?_, ?_, h3, ?_, ?_, ?_, h7, h8, ?_⟩
  · intro b hb
    obtain ⟨b1, b2, b3, b4⟩ := hw.2.1 a b ha hb
    exact ⟨b1, by omega, by rw [b4, sB]⟩
  · intro hb j hj
    have := hw.2.2.2.1 a j ha hb hj
    rw [sB]; omega
  · intro e he; cases he; exact ⟨ha, hac⟩
  · intro j
    rw [vup_at, sB]
    by_cases e : j = a
    · rw [if_pos e, e, if_pos ⟨ha, Or.inr (by omega)⟩, cU, if_neg (by omega), cUa]
    · rw [if_neg e, h5 j]
      by_cases q : gI G j = true ∧ (j < aE lE ∨ bE hE ≤ j)
      · rw [if_pos q, if_pos ⟨q.1, by omega⟩]
      · rw [if_neg q]
        by_cases w : gI G j = true ∧ (j < aE lE ∨ a ≤ j)
        · rw [if_pos w]
          have hj := w.1
          have j1 : j < bE hE := by
            rcases Nat.lt_or_ge j (bE hE) with z | z
            · exact z
            · exact absurd ⟨hj, Or.inr z⟩ q
          have j2 : a < j := by
            rcases w.2 with z | z
            · exact absurd ⟨hj, Or.inl z⟩ q
            · omega
          have := bet j hj j1 j2
          rw [cU, if_neg (by omega), cU2_n hj (by omega) (by omega)]
        · rw [if_neg w]
  · intro j
    rw [sB]
    by_cases e : hE = some j
    · have q4 := h4 j e
      have bB : bE hE = j := by rw [e]; rfl
      rw [e, ou_eq, if_pos ⟨q4.1, by omega⟩]
      obtain ⟨-, -, -, s⟩ := WF.side (hw.cut2 hc) (k := a) (u := j) (cI2_i.mpr ⟨ha, hac⟩) (by show cU2 G c a = some j; rw [cUa]; exact e)
      rcases s with s | s
      · exact s.2.1.symm
      · omega
    · rw [ou_ne e, h6 j]
      by_cases q : gI G j = true ∧ bE hE < j
      · rw [if_pos q, if_pos ⟨q.1, by omega⟩]
      · rw [if_neg q]
        by_cases w : gI G j = true ∧ a < j
        · rw [if_pos w]
          have hj := w.1
          have bj := hw.1 j hj
          have j1 : j < bE hE := by
            rcases Nat.lt_or_ge j (bE hE) with z | z
            · exact z
            · exfalso
              have : j = bE hE := by
                rcases Nat.lt_or_ge (bE hE) j with v | v
                · exact absurd ⟨hj, v⟩ q
                · omega
              cases hl : hE with
              | none => rw [hl] at this; have h : j = 64 := this; omega
              | some e' => rw [hl] at this; have h : j = e' := this; exact e (by rw [hl, h])
          have := bet j hj j1 w.2
          rw [c2_L hw hc hj (by omega)]
        · rw [if_neg w]
  · rw [if_neg (show (some a : Option Nat) ≠ none by simp)]
    by_cases e : hE = none
    · rw [if_pos e]
      exact ((hw.cut2 hc).2.2.2.2.2.1 a (cI2_i.mpr ⟨ha, hac⟩) (by show cU2 G c a = none; rw [cUa, e])).symm
    · rw [if_neg e, h9, if_neg e]
/-- the class goes down the way of the cut -/
theorem rs_cutL (hw : GW G) (hn : GN G) (hc : c < 64) : ∀ (m : Nat) (o lE hE : Option Nat) (L R U : Nat → Option Nat) (rt rt1 : Option Nat) (y y1 : Ob) (n st : Nat), cutI G c o lE hE L R U rt rt1 → RepS y L R U (gs G) rt tn → RepS y1 (fun _ => none) (fun _ => none) (fun _ => none) (fun _ => 0) rt1 tn1 → (∀ a, o = some a → wid G a ≤ m) → m < n → st + m ≤ 64 →
    ∃ (lE' hE' : Option Nat) (L' R' U' : Nat → Option Nat) (rt' rt1' : Option Nat) (y' y1' : Ob), fX3_cutAt_L19 n (nI c) (enc o) (enc lE) (enc hE) (nI st) y y1 = fX3_cutAt_J106 (nI c) (enc lE') (enc hE') y' y1' ∧ cutI G c none lE' hE' L' R' U' rt' rt1' ∧ RepS y' L' R' U' (gs G) rt' tn ∧ RepS y1' (fun _ => none) (fun _ => none) (fun _ => none) (fun _ => 0) rt1' tn1 := by
  intro m
  induction m with
  | zero =>
    intro o lE hE L R U rt rt1 y y1 n st hI hy hy1 hm h2 h3
    obtain ⟨n, rfl⟩ := Nat.exists_eq_succ_of_ne_zero (by omega : n ≠ 0)
    cases o with
    | some a => have := hm a rfl; have := hw.w1 (hI.1 a rfl).1; omega
    | none =>
      refine ⟨lE, hE, L, R, U, rt, rt1, y, y1, ?_, hI, hy, hy1⟩
      rw [fX3_cutAt_L19, enc_n]
      by_cases q : (64 : Int32) ≤ nI st
      · rw [if_pos q]
      · rw [if_neg q, if_pos rfl]
  | succ m ih =>
    intro o lE hE L R U rt rt1 y y1 n st hI hy hy1 hm h2 h3
    obtain ⟨n, rfl⟩ := Nat.exists_eq_succ_of_ne_zero (by omega : n ≠ 0)
    cases o with
    | none =>
      refine ⟨lE, hE, L, R, U, rt, rt1, y, y1, ?_, hI, hy, hy1⟩
      rw [fX3_cutAt_L19, enc_n]
      by_cases q : (64 : Int32) ≤ nI st
      · rw [if_pos q]
      · rw [if_neg q, if_pos rfl]
    | some a =>
      obtain ⟨ha, a1, a2⟩ := hI.1 a rfl
      have ba := hw.1 a ha
      have a64 := ba.1
      have bl : Bd lE := fun e he => (hw.1 e (hI.2.2.1 e he).1).1
      have bh : Bd hE := fun e he => (hw.1 e (hI.2.2.2.1 e he).1).1
      have wa := hm a rfl
      by_cases q : a < c
      · have eR : fX3_rightOf (nI a) y = some (enc (gR G a)) := by
          have := rs_right hy (Bd_s a64); rw [enc_s, Option.bind_some, hI.2.2.2.2.2.2.1 a, if_neg (by omega)] at this; exact this
        obtain ⟨y2, f1, f2, f3⟩ := rs_hang hy a64 bl
        obtain ⟨lE', hE', L', R', U', rt', rt1', y', y1', g1, g2⟩ := ih (gR G a) (some a) hE _ _ _ _ _ y2 y1 n (st + 1) (cut_low hw hn hc hI q) f2 hy1 (fun b hb => by
          obtain ⟨b1, b2, b3, b4⟩ := hw.2.2.1 a b ha hb
          have := hw.1 b b1; unfold wid at *; omega) (by omega) (by omega)
        refine ⟨lE', hE', L', R', U', rt', rt1', y', y1', ?_, g2⟩
        rw [fX3_cutAt_L19, if_neg (st64 (by omega)), enc_s, if_neg (nI_ne_m1 (by omega)), if_neg (nI_ge q (by omega)), eR, Option.bind_some, f1, Option.bind_some, fX3_cutAt_J100, px_let, nI_1]; exact g1
      · have eL : fX3_leftOf (nI a) y = some (enc (gL G a)) := by
          have := rs_left hy (Bd_s a64); rw [enc_s, Option.bind_some, hI.2.2.2.2.2.1 a, if_neg (by omega)] at this; exact this
        obtain ⟨y2, f1, f2, f3⟩ := rs_hangL hy (Bd_s a64) bh
        have hy2 : RepS (ob_i y1 5 (enc (if hE = none then some a else rt1))) (fun _ => none) (fun _ => none) (fun _ => none) (fun _ => 0) (if hE = none then some a else rt1) tn1 := ⟨hy1.1, hy1.2.1, hy1.2.2.1, hy1.2.2.2.1, rfl, hy1.2.2.2.2.2⟩
        obtain ⟨lE', hE', L', R', U', rt', rt1', y', y1', g1, g2⟩ := ih (gL G a) lE (some a) _ _ _ _ _ y2 (ob_i y1 5 (enc (if hE = none then some a else rt1))) n (st + 1) (cut_high hw hn hc hI (by omega)) f2 hy2 (fun b hb => by
          obtain ⟨b1, b2, b3, b4⟩ := hw.2.1 a b ha hb
          have := hw.1 b b1; unfold wid at *; omega) (by omega) (by omega)
        refine ⟨lE', hE', L', R', U', rt', rt1', y', y1', ?_, g2⟩
        rw [fX3_cutAt_L19, if_neg (st64 (by omega)), enc_s, if_neg (nI_ne_m1 (by omega)), if_pos (nI_le (by omega) (by omega)), eL, Option.bind_some]
        have f1' : fX3_hangLeft (nI a) (enc hE) y = some y2 := f1
        cases hh : hE with
        | none =>
          rw [hh] at g1 f1'
          rw [enc_n, if_pos rfl, fX3_cutAt_J85, px_let, ← enc_n, f1', Option.bind_some, fX3_cutAt_J100, px_let, nI_1]; exact g1
        | some e =>
          rw [hh] at g1 f1'
          have e5 : y1.1 5 = enc rt1 := hy1.2.2.2.2.1
          have e64 := bh e hh
          rw [if_neg (fun w : enc (some e) = -1 => nI_ne_m1 (k := e) (by omega) w), fX3_cutAt_J85, px_let, f1', Option.bind_some, fX3_cutAt_J100, px_let, nI_1, e5]
          rw [if_neg (by simp)] at g1; exact g1
end CC
