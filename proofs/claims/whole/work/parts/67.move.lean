section MV
variable {G : Gh} {y y1 : Ob} {tn tn1 : Int32} {L R U L1 R1 U1 : Nat → Option Nat} {sz s1 : Nat → Nat} {rt rt1 : Option Nat}
/-- sizes made right from a key of the piece G up: other keys stay -/
theorem rs_rspL {a : Nat} (hw : GW G) (hn : GN G) (hs : GS G) (ha : gI G a = true) (hL : ∀ k, gI G k = true → L k = gL G k) (hR : ∀ k, gI G k = true → R k = gR G k) (hU : ∀ k, gI G k = true → U k = gU G k) (bL : ∀ k, Bd (L k)) (bR : ∀ k, Bd (R k)) : ∀ (m b st n : Nat) (y : Ob) (sz : Nat → Nat), RepS y L R U sz rt tn → onWay G a b → 64 ≤ m + wid G b → m + 1 < n → st + m < 64 → (∀ j, gI G j = true → (¬ onWay G a j ∨ wid G j < wid G b) → sz j = gs G j) →
    ∃ (y' : Ob) (sz' : Nat → Nat), fX3_resizeUpFrom_L4 n (nI b) (nI st) y = some y' ∧ RepS y' L R U sz' rt tn ∧ (∀ j, gI G j = true → sz' j = gs G j) ∧ (∀ j, gI G j = false → sz' j = sz j) := by
  have ha64 : a < 64 := (hw.1 a ha).1
  intro m
  induction m with
  | zero =>
    intro b st n y sz hr hb h1 h2 h3 h4
    obtain ⟨n, rfl⟩ := Nat.exists_eq_succ_of_ne_zero (by omega : n ≠ 0)
    obtain ⟨n, rfl⟩ := Nat.exists_eq_succ_of_ne_zero (by omega : n ≠ 0)
    have hb64 : b < 64 := (hw.1 b hb.1).1
    obtain ⟨y1, f1, r1, o1⟩ := rs_resize hr bL bR hb64
    have eU : gU G b = none := by
      cases hU : gU G b with
      | none => rfl
      | some u => obtain ⟨q1, -, q3⟩ := hw.up hb hU; have := hw.w1 q1.1; omega
    have eup : fX3_upOf (nI b) y1 = some (-1) := by
      have := rs_up r1 (Bd_s hb64); rw [enc_s, Option.bind_some, hU b hb.1, eU] at this; exact this
    refine ⟨y1, _, ?_, r1, ?_, ?_⟩
    · rw [fX3_resizeUpFrom_L4, if_neg (st64 (by omega)), if_neg (nI_ne_m1 (by omega)), f1, Option.bind_some, eup, Option.bind_some, px_let, nI_1, fX3_resizeUpFrom_L4]
      by_cases q : (64 : Int32) ≤ nI (st + 1)
      · rw [if_pos q]
      · rw [if_neg q, if_pos rfl]
    · intro j hj
      rw [vup_at]
      by_cases e : j = b
      · rw [if_pos e, e, (hs b).1 hb.1, hL b hb.1, hR b hb.1]
        have eL : szo sz (gL G b) = szo (gs G) (gL G b) := by
          cases hL : gL G b with
          | none => rfl
          | some c => have w := hw.2.1 b c hb.1 hL; have := hw.1 c w.1; have := hw.1 b hb.1; exact h4 c w.1 (Or.inr (by unfold wid; omega))
        have eR : szo sz (gR G b) = szo (gs G) (gR G b) := by
          cases hR : gR G b with
          | none => rfl
          | some c => have w := hw.2.2.1 b c hb.1 hR; have := hw.1 c w.1; have := hw.1 b hb.1; exact h4 c w.1 (Or.inr (by unfold wid; omega))
        rw [eL, eR]
      · rw [if_neg e]
        by_cases q : onWay G a j
        · refine h4 j hj (Or.inr ?_)
          have w1 := hw.w1 q.1; have w2 := hw.w1 hb.1
          rcases Nat.lt_or_ge (wid G j) (wid G b) with z | z
          · exact z
          · exfalso
            have hUj : gU G j = none := by
              cases hU : gU G j with
              | none => rfl
              | some u => obtain ⟨q1, -, q3⟩ := hw.up q hU; have := hw.w1 q1.1; omega
            have r1 := hw.2.2.2.2.2.1 j q.1 hUj; have r2 := hw.2.2.2.2.2.1 b hb.1 eU
            rw [r1] at r2; exact e (Option.some.inj r2)
        · exact h4 j hj (Or.inl q)
    · intro j hj; rw [vu_ne (fun e => by rw [e, hb.1] at hj; cases hj)]
  | succ m ih =>
    intro b st n y sz hr hb h1 h2 h3 h4
    obtain ⟨n, rfl⟩ := Nat.exists_eq_succ_of_ne_zero (by omega : n ≠ 0)
    have hb64 : b < 64 := (hw.1 b hb.1).1
    obtain ⟨y1, f1, r1, o1⟩ := rs_resize hr bL bR hb64
    have eup : fX3_upOf (nI b) y1 = some (enc (gU G b)) := by
      have := rs_up r1 (Bd_s hb64); rw [enc_s, Option.bind_some, hU b hb.1] at this; exact this
    have other : ∀ j, gI G j = false → va_up sz b (1 + szo sz (L b) + szo sz (R b)) j = sz j := fun j hj => vu_ne (fun e => by rw [e, hb.1] at hj; cases hj)
    have right : ∀ j, gI G j = true → (¬ onWay G a j ∨ wid G j < wid G b ∨ j = b) → va_up sz b (1 + szo sz (L b) + szo sz (R b)) j = gs G j := by
      intro j hI hj
      rw [vup_at]
      by_cases e : j = b
      · rw [if_pos e, e, (hs b).1 hb.1, hL b hb.1, hR b hb.1]
        have eL : szo sz (gL G b) = szo (gs G) (gL G b) := by
          cases hL : gL G b with
          | none => rfl
          | some c => have w := hw.2.1 b c hb.1 hL; have := hw.1 c w.1; have := hw.1 b hb.1; exact h4 c w.1 (Or.inr (by unfold wid; omega))
        have eR : szo sz (gR G b) = szo (gs G) (gR G b) := by
          cases hR : gR G b with
          | none => rfl
          | some c => have w := hw.2.2.1 b c hb.1 hR; have := hw.1 c w.1; have := hw.1 b hb.1; exact h4 c w.1 (Or.inr (by unfold wid; omega))
        rw [eL, eR]
      · rw [if_neg e]
        exact h4 j hI (by rcases hj with q | q | q; exact Or.inl q; exact Or.inr q; exact absurd q e)
    cases hUb : gU G b with
    | none =>
      obtain ⟨n, rfl⟩ := Nat.exists_eq_succ_of_ne_zero (by omega : n ≠ 0)
      refine ⟨y1, _, ?_, r1, fun j hj => right j hj ?_, other⟩
      · rw [fX3_resizeUpFrom_L4, if_neg (st64 (by omega)), if_neg (nI_ne_m1 (by omega)), f1, Option.bind_some, eup, Option.bind_some, px_let, nI_1, hUb, enc_n, fX3_resizeUpFrom_L4]
        by_cases q : (64 : Int32) ≤ nI (st + 1)
        · rw [if_pos q]
        · rw [if_neg q, if_pos rfl]
      · by_cases q : onWay G a j
        · right
          have r2 := hw.2.2.2.2.2.1 b hb.1 hUb
          have rb := hw.2.2.2.2.2.2.2.1 b r2
          have wj := hw.1 j q.1
          by_cases e : j = b
          · exact Or.inr e
          · left
            cases hUj : gU G j with
            | none => have r1 := hw.2.2.2.2.2.1 j q.1 hUj; rw [r1] at r2; exact absurd (Option.some.inj r2) e
            | some u =>
              obtain ⟨q1, -, q3⟩ := hw.up q hUj
              have := hw.w1 q1.1
              have : wid G b = 64 := by unfold wid; rw [rb.2.2.1, rb.2.2.2]
              omega
        · exact Or.inl q
    | some u =>
      obtain ⟨q1, q2, q3⟩ := hw.up hb hUb
      obtain ⟨y2, s2, f2, r2, o2, o3⟩ := ih u (st + 1) n y1 _ r1 q1 (by omega) (by omega) (by omega) (fun j hI hj => right j hI (by
        rcases hj with z | z
        · exact Or.inl z
        · by_cases w : onWay G a j
          · rcases hw.next ha64 hb hUb w z with e | e
            · exact Or.inr (Or.inr e)
            · exact Or.inr (Or.inl e)
          · exact Or.inl w))
      refine ⟨y2, s2, ?_, r2, o2, fun j hj => (o3 j hj).trans (other j hj)⟩
      rw [fX3_resizeUpFrom_L4, if_neg (st64 (by omega)), if_neg (nI_ne_m1 (by omega)), f1, Option.bind_some, eup, Option.bind_some, px_let, nI_1, hUb, enc_s, f2]
theorem rs_rsp {a : Nat} (hw : GW G) (hn : GN G) (hs : GS G) (ha : gI G a = true) (hL : ∀ k, gI G k = true → L k = gL G k) (hR : ∀ k, gI G k = true → R k = gR G k) (hU : ∀ k, gI G k = true → U k = gU G k) (bL : ∀ k, Bd (L k)) (bR : ∀ k, Bd (R k)) (hr : RepS y L R U sz rt tn) (h4 : ∀ j, gI G j = true → ¬ onWay G a j → sz j = gs G j) : ∃ (y' : Ob) (sz' : Nat → Nat), fX3_resizeUpFrom (nI a) y = some y' ∧ RepS y' L R U sz' rt tn ∧ (∀ j, gI G j = true → sz' j = gs G j) ∧ (∀ j, gI G j = false → sz' j = sz j) := by
  have w1 := hw.w1 ha
  have a1 := hw.1 a ha
  exact rs_rspL (tn := tn) hw hn hs ha hL hR hU bL bR 63 a 0 FU y sz hr ⟨ha, a1.2.1, a1.2.2.1⟩ (by omega) (by decide) (by omega) (fun j hI hj => by
    rcases hj with q | q
    · exact h4 j hI q
    · refine h4 j hI (fun o => ?_)
      by_cases e : a = j
      · rw [e] at q; omega
      · have := (hw.sub ha o e).1; omega)
def ifb {α : Type} (p : Nat → Bool) (a b : Nat → α) : Nat → α := fun j => if p j = true then a j else b j
def mvd (f : Nat) (sz : Nat → Nat) (k : Nat) : Nat → Bool := fun j => decide (j < k) && decide (f ≤ j) && decide (0 < sz j)
theorem mvd_i {f : Nat} {k j : Nat} : mvd f sz k j = true ↔ j < k ∧ f ≤ j ∧ 0 < sz j := by unfold mvd; simp [and_assoc]
theorem mvd_s {f k : Nat} (h : ¬ (f ≤ k ∧ 0 < sz k)) : mvd f sz (k + 1) = mvd f sz k := by
  funext j
  have : mvd f sz (k + 1) j = true ↔ mvd f sz k j = true := by
    rw [mvd_i, mvd_i]
    by_cases e : j = k
    · subst e; omega
    · omega
  cases q : mvd f sz (k + 1) j with
  | true => exact (this.mp q).symm
  | false =>
    cases w : mvd f sz k j with
    | false => rfl
    | true => rw [this.mpr w] at q; cases q
theorem ifb_s {α : Type} {f k : Nat} (h : f ≤ k ∧ 0 < sz k) (a b : Nat → α) (j : Nat) : ifb (mvd f sz (k + 1)) a b j = if j = k then a k else ifb (mvd f sz k) a b j := by
  unfold ifb
  by_cases e : j = k
  · subst e; rw [if_pos (mvd_i.mpr ⟨by omega, h⟩), if_pos rfl]
  · rw [if_neg e]
    by_cases q : mvd f sz k j = true
    · rw [if_pos q, if_pos (mvd_i.mpr (by have := mvd_i.mp q; omega))]
    · rw [if_neg q, if_neg (fun w => q (mvd_i.mpr (by have := mvd_i.mp w; omega)))]
set_option maxHeartbeats 2000000 in
/-- keys move from one Shape to another -/
theorem rs_moveL {f : Nat} (hf : f ≤ 64) (h64 : ∀ k, sz k ≤ 64) (bL : ∀ k, Bd (L k)) : ∀ (m k n : Nat) (y y1 : Ob), m + k = 64 → m < n →
    RepS y (ifb (mvd f sz k) (fun _ => none) L) (ifb (mvd f sz k) (fun _ => none) R) (ifb (mvd f sz k) (fun _ => none) U) (ifb (mvd f sz k) (fun _ => 0) sz) rt tn →
    RepS y1 (ifb (mvd f sz k) L L1) (ifb (mvd f sz k) R R1) (ifb (mvd f sz k) U U1) (ifb (mvd f sz k) sz s1) rt1 tn1 →
    ∃ y' y1', fX3_moveKeys_L2 n (nI f) (nI k) y y1 = some (y', y1') ∧
    RepS y' (ifb (mvd f sz 64) (fun _ => none) L) (ifb (mvd f sz 64) (fun _ => none) R) (ifb (mvd f sz 64) (fun _ => none) U) (ifb (mvd f sz 64) (fun _ => 0) sz) rt tn ∧
    RepS y1' (ifb (mvd f sz 64) L L1) (ifb (mvd f sz 64) R R1) (ifb (mvd f sz 64) U U1) (ifb (mvd f sz 64) sz s1) rt1 tn1 := by
  intro m
  induction m with
  | zero =>
    intro k n y y1 h1 h2 hy hy1
    obtain ⟨n, rfl⟩ := Nat.exists_eq_succ_of_ne_zero (by omega : n ≠ 0)
    have : k = 64 := by omega
    subst this
    exact ⟨y, y1, by rw [fX3_moveKeys_L2, if_pos (by decide)], hy, hy1⟩
  | succ m ih =>
    intro k n y y1 h1 h2 hy hy1
    obtain ⟨n, rfl⟩ := Nat.exists_eq_succ_of_ne_zero (by omega : n ≠ 0)
    have hk : k < 64 := by omega
    have nk : ∀ {α : Type} (a b : Nat → α), ifb (mvd f sz k) a b k = b k := fun a b => by
      unfold ifb; rw [if_neg (fun q => by have := mvd_i.mp q; omega)]
    by_cases q1 : f ≤ k
    · have eS : fX3_sizeOf (nI k) y = some (nI (sz k)) := by
        have := rs_size hy (Bd_s hk); rw [enc_s] at this; rw [this]; show some (nI (ifb (mvd f sz k) (fun _ => 0) sz k)) = _; rw [nk]
      have s64 := h64 k
      by_cases q2 : 0 < sz k
      · have hh : fX3_holds (nI k) y = some 1 := by rw [fX3_holds, eS, Option.bind_some, if_neg (nI_nle q2 (by omega))]
        have eL : fX3_leftOf (nI k) y = some (enc (L k)) := by
          have := rs_left hy (Bd_s hk); rw [enc_s, Option.bind_some, nk] at this; exact this
        have eR : fX3_rightOf (nI k) y = some (enc (R k)) := by
          have := rs_right hy (Bd_s hk); rw [enc_s, Option.bind_some, nk] at this; exact this
        have eU : fX3_upOf (nI k) y = some (enc (U k)) := by
          have := rs_up hy (Bd_s hk); rw [enc_s, Option.bind_some, nk] at this; exact this
        obtain ⟨y2, g1, g2, g3⟩ := rs_forget hy hk
        obtain ⟨y', y1', f1, f2, f3⟩ := ih (k + 1) n y2 (ob_f (ob_f (ob_f (ob_f y1 0 (upd (y1.2 0) k (enc (L k)))) 1 (upd (y1.2 1) k (enc (R k)))) 2 (upd (y1.2 2) k (enc (U k)))) 3 (upd (y1.2 3) k (nI (sz k)))) (by omega) (by omega) (RepS.congr g2 (fun j hj => by rw [ifb_s ⟨q1, q2⟩, vup_at]) (fun j hj => by rw [ifb_s ⟨q1, q2⟩, vup_at]) (fun j hj => by rw [ifb_s ⟨q1, q2⟩, vup_at]) (fun j hj => by rw [ifb_s ⟨q1, q2⟩, vup_at]) rfl rfl) (by
          refine ⟨?_, ?_, ?_, ?_, hy1.2.2.2.2.1, hy1.2.2.2.2.2⟩
          · intro j hj
            show upd (y1.2 0) k (enc (L k)) j = _
            rw [upd_at, ifb_s ⟨q1, q2⟩]
            by_cases e : j = k
            · rw [if_pos e, if_pos e]
            · rw [if_neg e, if_neg e]; exact hy1.1 j hj
          · intro j hj
            show upd (y1.2 1) k (enc (R k)) j = _
            rw [upd_at, ifb_s ⟨q1, q2⟩]
            by_cases e : j = k
            · rw [if_pos e, if_pos e]
            · rw [if_neg e, if_neg e]; exact hy1.2.1 j hj
          · intro j hj
            show upd (y1.2 2) k (enc (U k)) j = _
            rw [upd_at, ifb_s ⟨q1, q2⟩]
            by_cases e : j = k
            · rw [if_pos e, if_pos e]
            · rw [if_neg e, if_neg e]; exact hy1.2.2.1 j hj
          · intro j hj
            show upd (y1.2 3) k (nI (sz k)) j = _
            rw [upd_at, ifb_s ⟨q1, q2⟩]
            by_cases e : j = k
            · rw [if_pos e, if_pos e]
            · rw [if_neg e, if_neg e]; exact hy1.2.2.2.1 j hj)
        refine ⟨y', y1', ?_, f2, f3⟩
        rw [fX3_moveKeys_L2, if_neg (st64 hk), if_neg (nI_nlt q1 (by omega)), hh, Option.bind_some, if_neg (by decide), eL, Option.bind_some, put_in hk (by decide), Option.bind_some, px_let, eR, Option.bind_some, put_in hk (by decide), Option.bind_some, px_let, eU, Option.bind_some, put_in hk (by decide), Option.bind_some, px_let, eS, Option.bind_some, put_in hk (by decide), Option.bind_some, px_let, g1, Option.bind_some, fX3_moveKeys_J78, px_let, nI_1]
        exact f1
      · have hh : fX3_holds (nI k) y = some 0 := by rw [fX3_holds, eS, Option.bind_some, show sz k = 0 by omega, if_pos (by decide)]
        have e := mvd_s (f := f) (sz := sz) (k := k) (fun z => q2 z.2)
        obtain ⟨y', y1', f1, f2⟩ := ih (k + 1) n y y1 (by omega) (by omega) (by rw [e]; exact hy) (by rw [e]; exact hy1)
        refine ⟨y', y1', ?_, f2⟩
        rw [fX3_moveKeys_L2, if_neg (st64 hk), if_neg (nI_nlt q1 (by omega)), hh, Option.bind_some, if_pos rfl, fX3_moveKeys_J78, px_let, nI_1, f1]
    · have e := mvd_s (f := f) (sz := sz) (k := k) (fun z => q1 z.1)
      obtain ⟨y', y1', f1, f2⟩ := ih (k + 1) n y y1 (by omega) (by omega) (by rw [e]; exact hy) (by rw [e]; exact hy1)
      refine ⟨y', y1', ?_, f2⟩
      rw [fX3_moveKeys_L2, if_neg (st64 hk), if_pos (nI_lt (by omega) (by omega)), fX3_moveKeys_J78, px_let, nI_1, f1]
theorem rs_move {f : Nat} (hf : f ≤ 64) (h64 : ∀ k, sz k ≤ 64) (bL : ∀ k, Bd (L k)) (hy : RepS y L R U sz rt tn) (hy1 : RepS y1 L1 R1 U1 s1 rt1 tn1) : ∃ y' y1', fX3_moveKeys (nI f) y y1 = some (y', y1') ∧
    RepS y' (ifb (mvd f sz 64) (fun _ => none) L) (ifb (mvd f sz 64) (fun _ => none) R) (ifb (mvd f sz 64) (fun _ => none) U) (ifb (mvd f sz 64) (fun _ => 0) sz) rt tn ∧
    RepS y1' (ifb (mvd f sz 64) L L1) (ifb (mvd f sz 64) R R1) (ifb (mvd f sz 64) U U1) (ifb (mvd f sz 64) sz s1) rt1 tn1 := by
  have e : ∀ {α : Type} (a b : Nat → α), ifb (mvd f sz 0) a b = b := fun a b => by
    funext j; unfold ifb; rw [if_neg (fun q => by have := mvd_i.mp q; omega)]
  exact rs_moveL hf h64 bL 64 0 FU y y1 (by omega) (by decide) (by rw [e, e, e, e]; exact hy) (by rw [e, e, e, e]; exact hy1)
end MV
