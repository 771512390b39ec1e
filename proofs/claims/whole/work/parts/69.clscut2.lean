section CE
variable {G : Gh} {c : Nat} {y y1 : Ob} {tn tn1 : Int32}
/-- the links of both trees, as they stand in one Shape -/
def bL (G : Gh) (c : Nat) : Nat → Option Nat := fun j => if j < c then gL (gcut1 G c) j else gL (gcut2 G c) j
def bR (G : Gh) (c : Nat) : Nat → Option Nat := fun j => if j < c then gR (gcut1 G c) j else gR (gcut2 G c) j
def bU (G : Gh) (c : Nat) : Nat → Option Nat := fun j => if j < c then gU (gcut1 G c) j else gU (gcut2 G c) j
theorem no1 {j : Nat} (h : gI G j = false) : cI1 G c j = false := by
  cases q : cI1 G c j with
  | false => rfl
  | true => rw [(cI1_i.mp q).1] at h; cases h
theorem no2 {j : Nat} (h : gI G j = false) : cI2 G c j = false := by
  cases q : cI2 G c j with
  | false => rfl
  | true => rw [(cI2_i.mp q).1] at h; cases h
theorem no1c {j : Nat} (h : c ≤ j) : cI1 G c j = false := by
  cases q : cI1 G c j with
  | false => rfl
  | true => have := (cI1_i.mp q).2; omega
theorem no2c {j : Nat} (h : j < c) : cI2 G c j = false := by
  cases q : cI2 G c j with
  | false => rfl
  | true => have := (cI2_i.mp q).2; omega
set_option maxHeartbeats 2000000 in
theorem rs_cut (hw : GW G) (hn : GN G) (hs : GS G) (hc : c < 64) (hy : RepS y (gL G) (gR G) (gU G) (gs G) (gr G) tn) (hy1 : RepS y1 (fun _ => none) (fun _ => none) (fun _ => none) (fun _ => 0) none tn1) : ∃ y' y1', fX3_cutAt (nI c) y y1 = some (y', y1') ∧ RepS y' (gL (gcut1 G c)) (gR (gcut1 G c)) (gU (gcut1 G c)) (gs (gcut1 G c)) (gr (gcut1 G c)) tn ∧ RepS y1' (gL (gcut2 G c)) (gR (gcut2 G c)) (gU (gcut2 G c)) (gs (gcut2 G c)) (gr (gcut2 G c)) tn1 := by
  have w1 := hw.cut1 hc
  have w2 := hw.cut2 hc
  have n1 := GN.cut1 hw hc
  have n2 := GN.cut2 hw hc
  have hy0 : RepS (ob_i y 5 (-1)) (gL G) (gR G) (gU G) (gs G) none tn := ⟨hy.1, hy.2.1, hy.2.2.1, hy.2.2.2.1, rfl, hy.2.2.2.2.2⟩
  have e5 : y.1 5 = enc (gr G) := hy.2.2.2.2.1
  have I0 : cutI G c (gr G) none none (gL G) (gR G) (gU G) none none := by
    refine ⟨?_, ?_, (fun e h => by cases h), (fun e h => by cases h), ?_, ?_, ?_, by rw [if_pos rfl], by rw [if_pos rfl]⟩
    · intro a ha; have := hw.2.2.2.2.2.2.2.1 a ha; exact ⟨this.1, this.2.2.1, this.2.2.2⟩
    · intro h j hj; have := hw.2.2.2.2.2.2.2.2 h j; rw [hj] at this; cases this
    · intro j
      rw [if_neg]
      rintro ⟨q1, q2⟩
      have := hw.1 j q1
      have : aE none = 0 := rfl
      have : bE none = 64 := rfl
      omega
    · intro j
      rw [if_neg]
      rintro ⟨q1, q2⟩
      have := hw.1 j q1
      have : bE none = 64 := rfl
      omega
    · intro j
      rw [if_neg]
      rintro ⟨q1, q2⟩
      have : aE none = 0 := rfl
      omega
  obtain ⟨lE, hE, L, R, U, rt, rt1, y2, y12, f1, f2, f3, f4⟩ := rs_cutL (tn := tn) (tn1 := tn1) hw hn hc 64 (gr G) none none (gL G) (gR G) (gU G) none none (ob_i y 5 (-1)) y1 FU 0 I0 hy0 hy1 (fun a ha => (hw.w1 (hw.2.2.2.2.2.2.2.1 a ha).1).2) (by decide) (by omega)
  obtain ⟨-, i2, i3, i4, i5, i6, i7, i8, i9⟩ := f2
  have i2 := i2 rfl
  have lA := aE_le (c := c) (o := lE) (fun e he => (i3 e he).2)
  have lB := bE_ge hc (o := hE) (fun e he => (i4 e he).2)
  have bl : Bd lE := fun e he => (hw.1 e (i3 e he).1).1
  have bh : Bd hE := fun e he => (hw.1 e (i4 e he).1).1
  -- all low keys are up to lE, all high ones from hE on
  have allL : ∀ j, gI G j = true → j < c → j < aE lE := fun j hj q => by have := i2 j hj; omega
  have allH : ∀ j, gI G j = true → c ≤ j → bE hE ≤ j := fun j hj q => by have := i2 j hj; omega
  -- the two ends are cut off
  have hy3 : RepS (ob_f (ob_f y2 1 (op (y2.2 1) lE (-1))) 0 (op (y2.2 0) hE (-1))) (bL G c) (bR G c) (bU G c) (gs G) (gr (gcut1 G c)) tn := by
    refine ⟨?_, ?_, ?_, f3.2.2.2.1, ?_, f3.2.2.2.2.2⟩
    · intro j hj
      show op (y2.2 0) hE (enc none) j = _
      rw [op_enc f3.1 hE none j hj]
      refine congrArg enc ?_
      rw [bL]
      cases hI : gI G j with
      | false =>
        have e0 : gL G j = none := (hn j hI).1
        have e1 : gL (gcut1 G c) j = none := (n1 j (no1 hI)).1
        have e2 : gL (gcut2 G c) j = none := (n2 j (no2 hI)).1
        have : ou L hE none j = none := by
          by_cases q : hE = some j
          · rw [q, ou_eq]
          · rw [ou_ne q, i6 j, if_neg (fun w => by rw [hI] at w; cases w.1), e0]
        rw [this, e1, e2]
        by_cases q : j < c
        · rw [if_pos q]
        · rw [if_neg q]
      | true =>
        by_cases q : j < c
        · rw [if_pos q, ou_ne (fun w => by have := (i4 j w).2; omega), i6 j, if_neg (by omega), c1_L hw hc hI q]
        · rw [if_neg q]
          have b1 := allH j hI (by omega)
          by_cases w : hE = some j
          · rw [w, ou_eq]
            cases hL : gL (gcut2 G c) j with
            | none => rfl
            | some d =>
              exfalso
              obtain ⟨d1, -, -, d4⟩ := w2.2.1 j d (cI2_i.mpr ⟨hI, by omega⟩) hL
              obtain ⟨d5, d6⟩ := cI2_i.mp (show cI2 G c d = true from d1)
              have d7 := allH d d5 d6
              have d8 := w2.1 d d1
              have : bE hE = j := by rw [w]; rfl
              omega
          · have : bE hE < j := by
              rcases Nat.lt_or_ge (bE hE) j with z | z
              · exact z
              · exfalso
                have hjb : j = bE hE := by omega
                cases hl : hE with
                | none => rw [hl] at hjb; have h : j = 64 := hjb; omega
                | some e => rw [hl] at hjb; have h : j = e := hjb; exact w (by rw [hl, h])
            rw [ou_ne w, i6 j, if_pos ⟨hI, this⟩]
    · intro j hj
      show op (y2.2 1) lE (enc none) j = _
      rw [op_enc f3.2.1 lE none j hj]
      refine congrArg enc ?_
      rw [bR]
      cases hI : gI G j with
      | false =>
        have e0 : gR G j = none := (hn j hI).2.1
        have e1 : gR (gcut1 G c) j = none := (n1 j (no1 hI)).2.1
        have e2 : gR (gcut2 G c) j = none := (n2 j (no2 hI)).2.1
        have : ou R lE none j = none := by
          by_cases q : lE = some j
          · rw [q, ou_eq]
          · rw [ou_ne q, i7 j, if_neg (fun w => by rw [hI] at w; cases w.1), e0]
        rw [this, e1, e2]
        by_cases q : j < c
        · rw [if_pos q]
        · rw [if_neg q]
      | true =>
        by_cases q : j < c
        · rw [if_pos q]
          have b1 := allL j hI q
          by_cases w : lE = some j
          · rw [w, ou_eq]
            cases hR : gR (gcut1 G c) j with
            | none => rfl
            | some d =>
              exfalso
              obtain ⟨d1, -, d3, d4⟩ := w1.2.2.1 j d (cI1_i.mpr ⟨hI, by omega⟩) hR
              obtain ⟨d5, d6⟩ := cI1_i.mp (show cI1 G c d = true from d1)
              have d7 := allL d d5 d6
              have d8 := w1.1 d d1
              have : aE lE = j + 1 := by rw [w]; rfl
              omega
          · have : j + 1 < aE lE := by
              rcases Nat.lt_or_ge (j + 1) (aE lE) with z | z
              · exact z
              · exfalso
                have hjb : j + 1 = aE lE := by omega
                cases hl : lE with
                | none => rw [hl] at hjb; have h : j + 1 = 0 := hjb; omega
                | some e => rw [hl] at hjb; have h : j + 1 = e + 1 := hjb; exact w (by rw [hl, show j = e by omega])
            rw [ou_ne w, i7 j, if_pos ⟨hI, this⟩]
        · rw [if_neg q, ou_ne (fun w => by have := (i3 j w).2; omega), i7 j, if_neg (by omega), c2_R hw hc hI (by omega)]
    · intro j hj
      show y2.2 2 j = _
      rw [f3.2.2.1 j hj, i5 j]
      refine congrArg enc ?_
      rw [bU]
      cases hI : gI G j with
      | false =>
        have e1 : gU (gcut1 G c) j = none := (n1 j (no1 hI)).2.2
        have e2 : gU (gcut2 G c) j = none := (n2 j (no2 hI)).2.2
        rw [if_neg (fun w => by cases w.1), (hn j hI).2.2, e1, e2]
        by_cases q : j < c
        · rw [if_pos q]
        · rw [if_neg q]
      | true =>
        by_cases q : j < c
        · rw [if_pos ⟨rfl, Or.inl (allL j hI q)⟩, if_pos q, cU, if_pos q]; rfl
        · rw [if_pos ⟨rfl, Or.inr (allH j hI (by omega))⟩, if_neg q, cU, if_neg q]; rfl
    · show y2.1 5 = _
      rw [f3.2.2.2.2.1, i8]
      refine congrArg enc ?_
      by_cases q : lE = none
      · rw [if_pos q]
        cases hg : gr (gcut1 G c) with
        | none => rfl
        | some r =>
          exfalso
          obtain ⟨r1, -⟩ := w1.2.2.2.2.2.2.2.1 r hg
          obtain ⟨r2, r3⟩ := cI1_i.mp (show cI1 G c r = true from r1)
          have := allL r r2 r3
          rw [q] at this; exact absurd this (Nat.not_lt_zero r)
      · rw [if_neg q]
  have bbL : ∀ k, Bd (bL G c k) := fun k => by
    rw [bL]; by_cases q : k < c
    · rw [if_pos q]; exact WF.bL w1 n1 k
    · rw [if_neg q]; exact WF.bL w2 n2 k
  have bbR : ∀ k, Bd (bR G c k) := fun k => by
    rw [bR]; by_cases q : k < c
    · rw [if_pos q]; exact WF.bR w1 n1 k
    · rw [if_neg q]; exact WF.bR w2 n2 k
  have s1 := GS.cut1 hw hc
  have s2 := GS.cut2 hw hc
  -- sizes
  have cz : ∀ j, gI G j = true → gs G j = cnt (gI G) (glo G j) (ghi G j - glo G j) := fun j hj => by rw [sz_eq hw hs, ccz, if_pos hj]
  generalize hY3 : ob_f (ob_f y2 1 (op (y2.2 1) lE (-1))) 0 (op (y2.2 0) hE (-1)) = y3 at hy3
  have step1 : ∃ y4 sz4, fX3_resizeUpFrom (enc lE) y3 = some y4 ∧ RepS y4 (bL G c) (bR G c) (bU G c) sz4 (gr (gcut1 G c)) tn ∧ (∀ j, cI1 G c j = true → sz4 j = gs (gcut1 G c) j) ∧ (∀ j, cI1 G c j = false → sz4 j = gs G j) := by
    cases hl : lE with
    | none =>
      refine ⟨y3, gs G, rs_rsz0 0, hy3, fun j hj => ?_, fun _ _ => rfl⟩
      obtain ⟨q1, q2⟩ := cI1_i.mp hj
      have := allL j q1 q2
      rw [hl] at this; exact absurd this (Nat.not_lt_zero j)
    | some e =>
      obtain ⟨e1, e2⟩ := i3 e hl
      exact rs_rsp w1 n1 s1 (a := e) (cI1_i.mpr ⟨e1, e2⟩) (fun k hk => by rw [bL, if_pos (cI1_i.mp hk).2]) (fun k hk => by rw [bR, if_pos (cI1_i.mp hk).2]) (fun k hk => by rw [bU, if_pos (cI1_i.mp hk).2]) bbL bbR hy3 (fun j hj hne => by
        obtain ⟨q1, q2⟩ := cI1_i.mp (show cI1 G c j = true from hj)
        have bj := hw.1 j q1
        have l1 := allL j q1 q2
        rw [hl] at l1
        have l1 : j < e + 1 := l1
        have : ¬ c ≤ ghi G j := fun z => hne ⟨hj, by show glo G j ≤ e; omega, by show e < ch1 G c j; rw [ch1, if_pos z]; omega⟩
        show gs G j = ccz (cI1 G c) (glo G) (ch1 G c) j
        rw [cz j q1, ccz, if_pos (show cI1 G c j = true from hj), ch1, if_neg this]
        refine cnt_cong (fun i z1 z2 => ?_)
        unfold cI1
        rw [show decide (i < c) = true by simp; omega, Bool.and_true])
  obtain ⟨y4, sz4, g1, g2, g3, g4⟩ := step1
  have step2 : ∃ y5 sz5, fX3_resizeUpFrom (enc hE) y4 = some y5 ∧ RepS y5 (bL G c) (bR G c) (bU G c) sz5 (gr (gcut1 G c)) tn ∧ (∀ j, cI2 G c j = true → sz5 j = gs (gcut2 G c) j) ∧ (∀ j, cI2 G c j = false → sz5 j = sz4 j) := by
    cases hl : hE with
    | none =>
      refine ⟨y4, sz4, rs_rsz0 0, g2, fun j hj => ?_, fun _ _ => rfl⟩
      obtain ⟨q1, q2⟩ := cI2_i.mp hj
      have q3 := allH j q1 q2
      have := hw.1 j q1
      rw [hl] at q3
      have q3 : 64 ≤ j := q3
      omega
    | some e =>
      obtain ⟨e1, e2⟩ := i4 e hl
      exact rs_rsp w2 n2 s2 (a := e) (cI2_i.mpr ⟨e1, e2⟩) (fun k hk => by rw [bL, if_neg (by have := (cI2_i.mp (show cI2 G c k = true from hk)).2; omega)]) (fun k hk => by rw [bR, if_neg (by have := (cI2_i.mp (show cI2 G c k = true from hk)).2; omega)]) (fun k hk => by rw [bU, if_neg (by have := (cI2_i.mp (show cI2 G c k = true from hk)).2; omega)]) bbL bbR g2 (fun j hj hne => by
        obtain ⟨q1, q2⟩ := cI2_i.mp (show cI2 G c j = true from hj)
        have bj := hw.1 j q1
        have l1 := allH j q1 q2
        rw [hl] at l1
        have l1 : e ≤ j := l1
        have : ¬ glo G j ≤ c := fun z => hne ⟨hj, by show cl2 G c j ≤ e; rw [cl2, if_pos z]; omega, by show e < ghi G j; omega⟩
        rw [g4 j (no1c q2)]
        show gs G j = ccz (cI2 G c) (cl2 G c) (ghi G) j
        rw [cz j q1, ccz, if_pos (show cI2 G c j = true from hj), cl2, if_neg this]
        refine cnt_cong (fun i z1 z2 => ?_)
        unfold cI2
        rw [show decide (c ≤ i) = true by simp; omega, Bool.and_true])
  obtain ⟨y5, sz5, k1, k2, k3, k4⟩ := step2
  have sv : ∀ j, sz5 j = if j < c then gs (gcut1 G c) j else gs (gcut2 G c) j := by
    intro j
    by_cases q : j < c
    · rw [if_pos q, k4 j (no2c q)]
      cases w : cI1 G c j with
      | true => exact g3 j w
      | false =>
        rw [g4 j w, (s1 j).2 w]
        have : gI G j = false := by
          cases z : gI G j with
          | false => rfl
          | true => rw [cI1_i.mpr ⟨z, q⟩] at w; cases w
        exact (hs j).2 this
    · rw [if_neg q]
      cases w : cI2 G c j with
      | true => exact k3 j w
      | false =>
        have : gI G j = false := by
          cases z : gI G j with
          | false => rfl
          | true => rw [cI2_i.mpr ⟨z, by omega⟩] at w; cases w
        rw [k4 j w, g4 j (no1 this), (s2 j).2 w]
        exact (hs j).2 this
  have s64 : ∀ k, sz5 k ≤ 64 := fun k => by
    rw [sv k]; by_cases q : k < c
    · rw [if_pos q]; exact GS.le w1 s1 k
    · rw [if_neg q]; exact GS.le w2 s2 k
  obtain ⟨y6, y16, m1, m2, m3⟩ := rs_move (f := c) (by omega) s64 bbL k2 f4
  have mvI : ∀ j, mvd c sz5 64 j = true ↔ cI2 G c j = true := by
    intro j
    rw [mvd_i]
    constructor
    · rintro ⟨z1, z2, z3⟩
      cases w : cI2 G c j with
      | true => rfl
      | false => rw [sv j, if_neg (by omega), (s2 j).2 w] at z3; omega
    · intro z
      obtain ⟨z1, z2⟩ := cI2_i.mp z
      have := hw.1 j z1
      refine ⟨this.1, z2, ?_⟩
      rw [sv j, if_neg (by omega), (s2 j).1 z]; omega
  have rtl : enc rt1 = enc (gr (gcut2 G c)) := by
    rw [i9]
    refine congrArg enc ?_
    by_cases q : hE = none
    · rw [if_pos q]
      cases hg : gr (gcut2 G c) with
      | none => rfl
      | some r =>
        exfalso
        obtain ⟨r1, -⟩ := w2.2.2.2.2.2.2.2.1 r hg
        obtain ⟨r2, r3⟩ := cI2_i.mp (show cI2 G c r = true from r1)
        have z := allH r r2 r3
        have := hw.1 r r2
        rw [q] at z
        have z : 64 ≤ r := z
        omega
    · rw [if_neg q]
  refine ⟨y6, y16, ?_, ?_, ?_⟩
  · rw [fX3_cutAt, px_let, px_let, e5]
    refine Eq.trans (b := fX3_cutAt_J106 (nI c) (enc lE) (enc hE) y2 y12) f1 ?_
    rw [fX3_cutAt_J106, put_enc bl, Option.bind_some, px_let]
    have e0 : (ob_f y2 1 (op (y2.2 1) lE (-1))).2 0 = y2.2 0 := rfl
    rw [e0, put_enc bh, Option.bind_some, px_let, hY3, g1, Option.bind_some, k1, Option.bind_some, m1, Option.bind_some]
  · have cv : ∀ {α : Type} (a b : Nat → α) (j : Nat), (cI2 G c j = true → ∀ v, a j = v → ifb (mvd c sz5 64) a b j = v) ∧ (cI2 G c j = false → ifb (mvd c sz5 64) a b j = b j) := fun a b j => by
      unfold ifb
      refine ⟨fun z v hv => by rw [if_pos ((mvI j).mpr z), hv], fun z => by rw [if_neg (fun w => by rw [(mvI j).mp w] at z; cases z)]⟩
    have gen : ∀ (f : Nat → Option Nat) (g1 g2 : Nat → Option Nat), (∀ j, f j = if j < c then g1 j else g2 j) → (∀ j, cI1 G c j = false → g1 j = none) → (∀ j, cI2 G c j = false → g2 j = none) → ∀ j, ifb (mvd c sz5 64) (fun _ => none) f j = g1 j := by
      intro f g1 g2 hf h1 h2 j
      cases w : cI2 G c j with
      | true => rw [(cv _ _ j).1 w none rfl, h1 j (no1c (cI2_i.mp w).2)]
      | false =>
        rw [(cv _ _ j).2 w, hf j]
        by_cases q : j < c
        · rw [if_pos q]
        · rw [if_neg q, h2 j w, h1 j (no1c (by omega))]
    refine RepS.congr m2 (fun j hj => gen _ _ _ (fun _ => rfl) (fun j h => (n1 j h).1) (fun j h => (n2 j h).1) j) (fun j hj => gen _ _ _ (fun _ => rfl) (fun j h => (n1 j h).2.1) (fun j h => (n2 j h).2.1) j) (fun j hj => gen _ _ _ (fun _ => rfl) (fun j h => (n1 j h).2.2) (fun j h => (n2 j h).2.2) j) (fun j hj => ?_) rfl rfl
    cases w : cI2 G c j with
    | true => rw [(cv _ _ j).1 w 0 rfl, (s1 j).2 (no1c (cI2_i.mp w).2)]
    | false =>
      rw [(cv _ _ j).2 w, sv j]
      by_cases q : j < c
      · rw [if_pos q]
      · rw [if_neg q, (s2 j).2 w, (s1 j).2 (no1c (by omega))]
  · have cv : ∀ {α : Type} (a b : Nat → α) (j : Nat), (cI2 G c j = true → ifb (mvd c sz5 64) a b j = a j) ∧ (cI2 G c j = false → ifb (mvd c sz5 64) a b j = b j) := fun a b j => by
      unfold ifb
      refine ⟨fun z => by rw [if_pos ((mvI j).mpr z)], fun z => by rw [if_neg (fun w => by rw [(mvI j).mp w] at z; cases z)]⟩
    have gen : ∀ (f : Nat → Option Nat) (g1 g2 : Nat → Option Nat), (∀ j, f j = if j < c then g1 j else g2 j) → (∀ j, cI2 G c j = false → g2 j = none) → ∀ j, ifb (mvd c sz5 64) f (fun _ => none) j = g2 j := by
      intro f g1 g2 hf h2 j
      cases w : cI2 G c j with
      | true => rw [(cv _ _ j).1 w, hf j, if_neg (by have := (cI2_i.mp w).2; omega)]
      | false => rw [(cv _ _ j).2 w, h2 j w]
    have m3' : RepS y16 (ifb (mvd c sz5 64) (bL G c) fun _ => none) (ifb (mvd c sz5 64) (bR G c) fun _ => none) (ifb (mvd c sz5 64) (bU G c) fun _ => none) (ifb (mvd c sz5 64) sz5 fun _ => 0) (gr (gcut2 G c)) tn1 := ⟨m3.1, m3.2.1, m3.2.2.1, m3.2.2.2.1, by rw [m3.2.2.2.2.1, rtl], m3.2.2.2.2.2⟩
    refine RepS.congr m3' (fun j hj => gen _ _ _ (fun _ => rfl) (fun j h => (n2 j h).1) j) (fun j hj => gen _ _ _ (fun _ => rfl) (fun j h => (n2 j h).2.1) j) (fun j hj => gen _ _ _ (fun _ => rfl) (fun j h => (n2 j h).2.2) j) (fun j hj => ?_) rfl rfl
    cases w : cI2 G c j with
    | true => rw [(cv _ _ j).1 w, sv j, if_neg (by have := (cI2_i.mp w).2; omega)]
    | false => rw [(cv _ _ j).2 w, (s2 j).2 w]
end CE
