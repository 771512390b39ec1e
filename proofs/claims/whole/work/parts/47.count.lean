/-- how many keys of [a, a + n) are in -/
def cnt (I : Nat → Bool) (a : Nat) : Nat → Nat
  | 0 => 0
  | n + 1 => cnt I a n + (if I (a + n) = true then 1 else 0)
theorem cnt_s (I : Nat → Bool) (a n : Nat) : cnt I a (n + 1) = cnt I a n + (if I (a + n) = true then 1 else 0) := rfl
theorem cnt_split (I : Nat → Bool) (a m n : Nat) : cnt I a (m + n) = cnt I a m + cnt I (a + m) n := by
  induction n with
  | zero => rfl
  | succ n ih => rw [← Nat.add_assoc, cnt_s, cnt_s, ih, Nat.add_assoc a m n]; omega
theorem cnt_le (I : Nat → Bool) (a n : Nat) : cnt I a n ≤ n := by
  induction n with
  | zero => exact Nat.le_refl 0
  | succ n ih =>
    rw [cnt_s]
    by_cases h : I (a + n) = true
    · rw [if_pos h]; omega
    · rw [if_neg h]; omega
theorem cnt_zero {I : Nat → Bool} {a n : Nat} (h : ∀ j, a ≤ j → j < a + n → I j = true → False) : cnt I a n = 0 := by
  induction n with
  | zero => rfl
  | succ n ih =>
    rw [cnt_s, ih (fun j h1 h2 h3 => h j h1 (by omega) h3), if_neg (fun e => h (a + n) (by omega) (by omega) e)]
theorem cnt_cong {I J : Nat → Bool} {a n : Nat} (h : ∀ j, a ≤ j → j < a + n → I j = J j) : cnt I a n = cnt J a n := by
  induction n with
  | zero => rfl
  | succ n ih => rw [cnt_s, cnt_s, ih (fun j h1 h2 => h j h1 (by omega)), h (a + n) (by omega) (by omega)]
/-- the size of a key: how many are in its interval -/
def ccz (I : Nat → Bool) (lo hi : Nat → Nat) : Nat → Nat := fun k => if I k = true then cnt I (lo k) (hi k - lo k) else 0
section CT
variable {L R U : Nat → Option Nat} {rt : Option Nat} {I : Nat → Bool} {lo hi : Nat → Nat} {sz : Nat → Nat}
theorem cnt_node (h : WF L R U rt I lo hi) {k : Nat} (hk : I k = true) : cnt I (lo k) (hi k - lo k) = 1 + cnt I (lo k) (k - lo k) + cnt I (k + 1) (hi k - (k + 1)) := by
  have a := h.1 k hk
  have e1 : hi k - lo k = (k - lo k) + (1 + (hi k - (k + 1))) := by omega
  rw [e1, cnt_split, cnt_split]
  have e2 : lo k + (k - lo k) = k := by omega
  rw [e2]
  have e3 : cnt I k 1 = 1 := by rw [cnt_s, Nat.add_zero, if_pos hk]; rfl
  rw [e3]; omega
theorem sz_ccz (h : WF L R U rt I lo hi) : SZ L R I (ccz I lo hi) := by
  intro k
  refine ⟨fun hk => ?_, fun hk => ?_⟩
  · have e : ccz I lo hi k = cnt I (lo k) (hi k - lo k) := if_pos hk
    rw [e, cnt_node h hk]
    have a := h.1 k hk
    have eL : cnt I (lo k) (k - lo k) = szo (ccz I lo hi) (L k) := by
      cases hL : L k with
      | none => exact cnt_zero (fun j h1 h2 h3 => h.2.2.2.1 k j hk hL h3 ⟨h1, by omega⟩)
      | some c =>
        obtain ⟨c1, -, c2, c3⟩ := h.2.1 k c hk hL
        show _ = ccz I lo hi c
        rw [ccz, if_pos c1, c2, c3]
    have eR : cnt I (k + 1) (hi k - (k + 1)) = szo (ccz I lo hi) (R k) := by
      cases hR : R k with
      | none => exact cnt_zero (fun j h1 h2 h3 => h.2.2.2.2.1 k j hk hR h3 ⟨by omega, by omega⟩)
      | some c =>
        obtain ⟨c1, -, c2, c3⟩ := h.2.2.1 k c hk hR
        show _ = ccz I lo hi c
        rw [ccz, if_pos c1, c2, c3]
    rw [eL, eR]
  · exact if_neg (by rw [hk]; decide)
theorem sz_uniq (h : WF L R U rt I lo hi) (hs : SZ L R I sz) : ∀ (m k : Nat), I k = true → hi k - lo k ≤ m → sz k = ccz I lo hi k := by
  have hc := sz_ccz h
  intro m
  induction m with
  | zero => intro k hk h1; have := h.1 k hk; omega
  | succ m ih =>
    intro k hk h1
    have a := h.1 k hk
    rw [(hs k).1 hk, (hc k).1 hk]
    have eL : szo sz (L k) = szo (ccz I lo hi) (L k) := by
      cases hL : L k with
      | none => rfl
      | some c =>
        obtain ⟨c1, -, c2, c3⟩ := h.2.1 k c hk hL
        have := h.1 c c1
        exact ih c c1 (by omega)
    have eR : szo sz (R k) = szo (ccz I lo hi) (R k) := by
      cases hR : R k with
      | none => rfl
      | some c =>
        obtain ⟨c1, -, c2, c3⟩ := h.2.2.1 k c hk hR
        have := h.1 c c1
        exact ih c c1 (by omega)
    rw [eL, eR]
theorem sz_eq (h : WF L R U rt I lo hi) (hs : SZ L R I sz) (k : Nat) : sz k = ccz I lo hi k := by
  cases hk : I k with
  | true => exact sz_uniq h hs _ k hk (Nat.le_refl _)
  | false => rw [(hs k).2 hk, ccz, if_neg (by rw [hk]; decide)]
theorem ccz_le (h : WF L R U rt I lo hi) (k : Nat) : ccz I lo hi k ≤ 64 := by
  unfold ccz
  by_cases hk : I k = true
  · rw [if_pos hk]; have := h.1 k hk; have := cnt_le I (lo k) (hi k - lo k); omega
  · rw [if_neg hk]; omega
theorem sz_rt (h : WF L R U rt I lo hi) : szo (ccz I lo hi) rt = cnt I 0 64 := by
  cases hr : rt with
  | none => exact (cnt_zero (fun j _ _ h3 => by rw [h.2.2.2.2.2.2.2.2 hr j] at h3; cases h3)).symm
  | some r =>
    obtain ⟨a1, a2, a3, a4⟩ := h.2.2.2.2.2.2.2.1 r hr
    show ccz I lo hi r = _
    rw [ccz, if_pos a1, a3, a4]
end CT
section PW
variable {G : Gh}
theorem GS.le (hw : GW G) (hs : GS G) (k : Nat) : gs G k ≤ 64 := by rw [sz_eq hw hs]; exact ccz_le hw k
theorem GS.rt (hw : GW G) (hs : GS G) : szo (gs G) (gr G) = cnt (gI G) 0 64 := by
  rw [show gs G = ccz (gI G) (glo G) (ghi G) from funext (sz_eq hw hs)]; exact sz_rt hw
/-- the way of a search of k, step by step -/
def pth (G : Gh) (k : Nat) : Nat → Option Nat
  | 0 => gr G
  | n + 1 => match pth G k n with
    | none => none
    | some a => if k < a then gL G a else if a < k then gR G a else none
theorem pth_s {k n a : Nat} (h : pth G k n = some a) : pth G k (n + 1) = if k < a then gL G a else if a < k then gR G a else none := by
  show (match pth G k n with | none => none | some a => if k < a then gL G a else if a < k then gR G a else none) = _
  rw [h]
theorem pth_n {k n : Nat} (h : pth G k n = none) : ∀ m, pth G k (n + m) = none := by
  intro m
  induction m with
  | zero => exact h
  | succ m ih =>
    show (match pth G k (n + m) with | none => none | some a => if k < a then gL G a else if a < k then gR G a else none) = _
    rw [ih]
theorem GW.way (hw : GW G) {k u a : Nat} (ho : onWay G k u) (hc : (k < u ∧ gL G u = some a) ∨ (u < k ∧ gR G u = some a)) : onWay G k a ∧ gU G a = some u ∧ wid G a < wid G u := by
  obtain ⟨h1, h2, h3⟩ := ho
  rcases hc with ⟨c1, c2⟩ | ⟨c1, c2⟩
  · obtain ⟨d1, d2, d3, d4⟩ := hw.2.1 u a h1 c2
    have := hw.1 a d1; have := hw.1 u h1
    exact ⟨⟨d1, by omega, by omega⟩, d2, by unfold wid; omega⟩
  · obtain ⟨d1, d2, d3, d4⟩ := hw.2.2.1 u a h1 c2
    have := hw.1 a d1; have := hw.1 u h1
    exact ⟨⟨d1, by omega, by omega⟩, d2, by unfold wid; omega⟩
theorem GW.up (hw : GW G) {k a u : Nat} (ho : onWay G k a) (hu : gU G a = some u) : onWay G k u ∧ ((k < u ∧ gL G u = some a) ∨ (u < k ∧ gR G u = some a)) ∧ wid G a < wid G u := by
  obtain ⟨h1, h2, h3⟩ := ho
  obtain ⟨hIu, hu64, ha64, hs⟩ := WF.side hw h1 hu
  have := hw.1 a h1; have := hw.1 u hIu
  refine ⟨⟨hIu, by omega, by omega⟩, ?_, by unfold wid; omega⟩
  rcases hs with q | q
  · exact Or.inl ⟨by omega, q.2.1⟩
  · exact Or.inr ⟨by omega, q.2.1⟩
theorem pth_of (hw : GW G) {k : Nat} : ∀ (m a : Nat), onWay G k a → 64 ≤ m + wid G a → ∃ n, pth G k n = some a := by
  intro m
  induction m with
  | zero =>
    intro a ho h1
    cases hU : gU G a with
    | none => exact ⟨0, hw.2.2.2.2.2.1 a ho.1 hU⟩
    | some u => obtain ⟨o1, -, o3⟩ := hw.up ho hU; have := hw.w1 o1.1; omega
  | succ m ih =>
    intro a ho h1
    cases hU : gU G a with
    | none => exact ⟨0, hw.2.2.2.2.2.1 a ho.1 hU⟩
    | some u =>
      obtain ⟨o1, o2, o3⟩ := hw.up ho hU
      obtain ⟨n, hn⟩ := ih u o1 (by omega)
      refine ⟨n + 1, ?_⟩
      rw [pth_s hn]
      rcases o2 with ⟨q1, q2⟩ | ⟨q1, q2⟩
      · rw [if_pos q1]; exact q2
      · rw [if_neg (by omega), if_pos q1]; exact q2
theorem pth_on (hw : GW G) {k : Nat} (hk : k < 64) : ∀ (n a : Nat), pth G k n = some a → onWay G k a := by
  intro n
  induction n with
  | zero => intro a h; exact hw.root h hk
  | succ n ih =>
    intro a h
    cases hp : pth G k n with
    | none => rw [show pth G k (n + 1) = none from pth_n hp 1] at h; cases h
    | some u =>
      rw [pth_s hp] at h
      by_cases q : k < u
      · rw [if_pos q] at h; exact (hw.way (ih u hp) (Or.inl ⟨q, h⟩)).1
      · rw [if_neg q] at h
        by_cases q2 : u < k
        · rw [if_pos q2] at h; exact (hw.way (ih u hp) (Or.inr ⟨q2, h⟩)).1
        · rw [if_neg q2] at h; cases h
theorem pth_wid (hw : GW G) {k : Nat} (hk : k < 64) : ∀ (m n a b : Nat), pth G k n = some a → pth G k (n + (m + 1)) = some b → wid G b < wid G a := by
  intro m
  induction m with
  | zero =>
    intro n a b h1 h2
    rw [Nat.zero_add, pth_s h1] at h2
    by_cases q : k < a
    · rw [if_pos q] at h2; exact (hw.way (pth_on hw hk n a h1) (Or.inl ⟨q, h2⟩)).2.2
    · rw [if_neg q] at h2
      by_cases q2 : a < k
      · rw [if_pos q2] at h2; exact (hw.way (pth_on hw hk n a h1) (Or.inr ⟨q2, h2⟩)).2.2
      · rw [if_neg q2] at h2; cases h2
  | succ m ih =>
    intro n a b h1 h2
    cases hp : pth G k (n + (m + 1)) with
    | none => rw [show n + (m + 1 + 1) = n + (m + 1) + 1 by omega, pth_n hp 1] at h2; cases h2
    | some c =>
      have c1 := ih n a c h1 hp
      rw [show n + (m + 1 + 1) = n + (m + 1) + 1 by omega, pth_s hp] at h2
      have oc := pth_on hw hk _ c hp
      by_cases q : k < c
      · rw [if_pos q] at h2; have := (hw.way oc (Or.inl ⟨q, h2⟩)).2.2; omega
      · rw [if_neg q] at h2
        by_cases q2 : c < k
        · rw [if_pos q2] at h2; have := (hw.way oc (Or.inr ⟨q2, h2⟩)).2.2; omega
        · rw [if_neg q2] at h2; cases h2
/-- the end of a search is one -/
theorem GW.last1 (hw : GW G) {k l m : Nat} (hl : lastAt G k l) (hm : onWay G k m) (he : (k < m ∧ gL G m = none) ∨ (m < k ∧ gR G m = none) ∨ m = k) : m = l := by
  have stop : ∀ n a, pth G k n = some a → (a = k ∨ (k < a ∧ gL G a = none) ∨ (a < k ∧ gR G a = none)) → pth G k (n + 1) = none := by
    intro n a h1 h2
    rw [pth_s h1]
    rcases h2 with q | ⟨q, q2⟩ | ⟨q, q2⟩
    · rw [if_neg (by omega), if_neg (by omega)]
    · rw [if_pos q, q2]
    · rw [if_neg (by omega), if_pos q, q2]
  obtain ⟨n1, e1⟩ := pth_of hw 64 l hl.1 (by omega)
  obtain ⟨n2, e2⟩ := pth_of hw 64 m hm (by omega)
  have s1 := stop n1 l e1 hl.2
  have s2 := stop n2 m e2 (by rcases he with q | q | q; exact Or.inr (Or.inl q); exact Or.inr (Or.inr q); exact Or.inl q)
  rcases Nat.lt_trichotomy n1 n2 with q | q | q
  · have := pth_n s1 (n2 - n1 - 1)
    rw [show n1 + 1 + (n2 - n1 - 1) = n2 by omega, e2] at this; cases this
  · rw [q, e2] at e1; exact Option.some.inj e1
  · have := pth_n s2 (n1 - n2 - 1)
    rw [show n2 + 1 + (n1 - n2 - 1) = n1 by omega, e1] at this; cases this
/-- between a key on the way and the one above it there is none -/
theorem GW.next (hw : GW G) {k a u j : Nat} (hk : k < 64) (ha : onWay G k a) (hu : gU G a = some u) (hj : onWay G k j) (hlt : wid G j < wid G u) : j = a ∨ wid G j < wid G a := by
  obtain ⟨o1, o2, o3⟩ := hw.up ha hu
  obtain ⟨n, e1⟩ := pth_of hw 64 u o1 (by omega)
  obtain ⟨n2, e2⟩ := pth_of hw 64 j hj (by omega)
  have ea : pth G k (n + 1) = some a := by
    rw [pth_s e1]
    rcases o2 with ⟨q1, q2⟩ | ⟨q1, q2⟩
    · rw [if_pos q1]; exact q2
    · rw [if_neg (by omega), if_pos q1]; exact q2
  rcases Nat.lt_trichotomy n2 (n + 1) with q | q | q
  · by_cases e : n2 = n
    · rw [e, e1] at e2; cases e2; omega
    · have := pth_wid hw hk (n - n2 - 1) n2 j u e2 (by rw [show n2 + (n - n2 - 1 + 1) = n by omega]; exact e1)
      omega
  · rw [q, ea] at e2; exact Or.inl (Option.some.inj e2).symm
  · have := pth_wid hw hk (n2 - (n + 1) - 1) (n + 1) a j ea (by rw [show n + 1 + (n2 - (n + 1) - 1 + 1) = n2 by omega]; exact e2)
    exact Or.inr this
/-- a key that is in is found -/
theorem GW.found (hw : GW G) {k l : Nat} (hk : gI G k = true) (hl : lastAt G k l) : l = k := by
  have a := hw.1 k hk
  exact (hw.last1 hl ⟨hk, a.2.1, a.2.2.1⟩ (Or.inr (Or.inr rfl))).symm
/-- sizes made right from a key up -/
theorem rs_rszL {y : Ob} {tn : Int32} {a : Nat} (hw : GW G) (hn : GN G) (hs : GS G) (ha : gI G a = true) : ∀ (m b st n : Nat) (y : Ob) (sz : Nat → Nat), RepS y (gL G) (gR G) (gU G) sz (gr G) tn → onWay G a b → 64 ≤ m + wid G b → m + 1 < n → st + m < 64 → (∀ j, (¬ onWay G a j ∨ wid G j < wid G b) → sz j = gs G j) →
    ∃ y', fX3_resizeUpFrom_L4 n (nI b) (nI st) y = some y' ∧ RepS y' (gL G) (gR G) (gU G) (gs G) (gr G) tn ∧ y'.2 4 = y.2 4 := by
  have ha64 : a < 64 := (hw.1 a ha).1
  intro m
  induction m with
  | zero =>
    intro b st n y sz hr hb h1 h2 h3 h4
    obtain ⟨n, rfl⟩ := Nat.exists_eq_succ_of_ne_zero (by omega : n ≠ 0)
    obtain ⟨n, rfl⟩ := Nat.exists_eq_succ_of_ne_zero (by omega : n ≠ 0)
    have hb64 : b < 64 := (hw.1 b hb.1).1
    obtain ⟨y1, f1, r1, o1⟩ := rs_resize hr (WF.bL hw hn) (WF.bR hw hn) hb64
    have eU : gU G b = none := by
      cases hU : gU G b with
      | none => rfl
      | some u => obtain ⟨q1, -, q3⟩ := hw.up hb hU; have := hw.w1 q1.1; omega
    have eup : fX3_upOf (nI b) y1 = some (-1) := by
      have := rs_up r1 (Bd_s hb64); rw [enc_s, Option.bind_some, eU] at this; exact this
    refine ⟨y1, ?_, ?_, o1⟩
    · rw [fX3_resizeUpFrom_L4, if_neg (st64 (by omega)), if_neg (nI_ne_m1 (by omega)), f1, Option.bind_some, eup, Option.bind_some, px_let, nI_1, fX3_resizeUpFrom_L4]
      by_cases q : (64 : Int32) ≤ nI (st + 1)
      · rw [if_pos q]
      · rw [if_neg q, if_pos rfl]
    · refine RepS.congr r1 (fun _ _ => rfl) (fun _ _ => rfl) (fun _ _ => rfl) (fun j hj => ?_) rfl rfl
      rw [vup_at]
      by_cases e : j = b
      · rw [if_pos e, e, (hs b).1 hb.1]
        have eL : szo sz (gL G b) = szo (gs G) (gL G b) := by
          cases hL : gL G b with
          | none => rfl
          | some c => have := hw.2.1 b c hb.1 hL; have := hw.1 c this.1; have := hw.1 b hb.1; exact h4 c (Or.inr (by unfold wid; omega))
        have eR : szo sz (gR G b) = szo (gs G) (gR G b) := by
          cases hR : gR G b with
          | none => rfl
          | some c => have := hw.2.2.1 b c hb.1 hR; have := hw.1 c this.1; have := hw.1 b hb.1; exact h4 c (Or.inr (by unfold wid; omega))
        rw [eL, eR]
      · rw [if_neg e]
        by_cases q : onWay G a j
        · refine h4 j (Or.inr ?_)
          have w1 := hw.w1 q.1; have w2 := hw.w1 hb.1
          rcases Nat.lt_or_ge (wid G j) (wid G b) with z | z
          · exact z
          · exfalso
            have hUj : gU G j = none := by
              cases hU : gU G j with
              | none => rfl
              | some u => obtain ⟨q1, -, q3⟩ := hw.up q hU; have := hw.w1 q1.1; omega
            have r1 := hw.2.2.2.2.2.1 j q.1 hUj; have r2 := hw.2.2.2.2.2.1 b hb.1 eU
            rw [r1] at r2; exact e (Option.some.inj r2)
        · exact h4 j (Or.inl q)
  | succ m ih =>
    intro b st n y sz hr hb h1 h2 h3 h4
    obtain ⟨n, rfl⟩ := Nat.exists_eq_succ_of_ne_zero (by omega : n ≠ 0)
    have hb64 : b < 64 := (hw.1 b hb.1).1
    obtain ⟨y1, f1, r1, o1⟩ := rs_resize hr (WF.bL hw hn) (WF.bR hw hn) hb64
    have eup : fX3_upOf (nI b) y1 = some (enc (gU G b)) := by
      have := rs_up r1 (Bd_s hb64); rw [enc_s, Option.bind_some] at this; exact this
    have right : ∀ j, (¬ onWay G a j ∨ wid G j < wid G b ∨ j = b) → va_up sz b (1 + szo sz (gL G b) + szo sz (gR G b)) j = gs G j := by
      intro j hj
      rw [vup_at]
      by_cases e : j = b
      · rw [if_pos e, e, (hs b).1 hb.1]
        have eL : szo sz (gL G b) = szo (gs G) (gL G b) := by
          cases hL : gL G b with
          | none => rfl
          | some c => have := hw.2.1 b c hb.1 hL; have := hw.1 c this.1; have := hw.1 b hb.1; exact h4 c (Or.inr (by unfold wid; omega))
        have eR : szo sz (gR G b) = szo (gs G) (gR G b) := by
          cases hR : gR G b with
          | none => rfl
          | some c => have := hw.2.2.1 b c hb.1 hR; have := hw.1 c this.1; have := hw.1 b hb.1; exact h4 c (Or.inr (by unfold wid; omega))
        rw [eL, eR]
      · rw [if_neg e]
        exact h4 j (by rcases hj with q | q | q; exact Or.inl q; exact Or.inr q; exact absurd q e)
    cases hU : gU G b with
    | none =>
      obtain ⟨n, rfl⟩ := Nat.exists_eq_succ_of_ne_zero (by omega : n ≠ 0)
      refine ⟨y1, ?_, ?_, o1⟩
      · rw [fX3_resizeUpFrom_L4, if_neg (st64 (by omega)), if_neg (nI_ne_m1 (by omega)), f1, Option.bind_some, eup, Option.bind_some, px_let, nI_1, hU, enc_n, fX3_resizeUpFrom_L4]
        by_cases q : (64 : Int32) ≤ nI (st + 1)
        · rw [if_pos q]
        · rw [if_neg q, if_pos rfl]
      · refine RepS.congr r1 (fun _ _ => rfl) (fun _ _ => rfl) (fun _ _ => rfl) (fun j hj => right j ?_) rfl rfl
        by_cases q : onWay G a j
        · right
          have r2 := hw.2.2.2.2.2.1 b hb.1 hU
          have rb := hw.2.2.2.2.2.2.2.1 b r2
          have wj := hw.1 j q.1
          by_cases e : j = b
          · exact Or.inr e
          · left
            cases hUj : gU G j with
            | none => have r1 := hw.2.2.2.2.2.1 j q.1 hUj; rw [r1] at r2; exact absurd (Option.some.inj r2) e
            | some u => obtain ⟨q1, -, q3⟩ := hw.up q hUj; have := hw.w1 q1.1; have : wid G b = 64 := by unfold wid; rw [rb.2.2.1, rb.2.2.2]
                        omega
        · exact Or.inl q
    | some u =>
      obtain ⟨q1, q2, q3⟩ := hw.up hb hU
      obtain ⟨y2, f2, r2, o2⟩ := ih u (st + 1) n y1 _ r1 q1 (by omega) (by omega) (by omega) (fun j hj => right j (by
        rcases hj with z | z
        · exact Or.inl z
        · by_cases w : onWay G a j
          · rcases hw.next ha64 hb hU w z with e | e
            · exact Or.inr (Or.inr e)
            · exact Or.inr (Or.inl e)
          · exact Or.inl w))
      refine ⟨y2, ?_, r2, o2.trans o1⟩
      rw [fX3_resizeUpFrom_L4, if_neg (st64 (by omega)), if_neg (nI_ne_m1 (by omega)), f1, Option.bind_some, eup, Option.bind_some, px_let, nI_1, hU, enc_s, f2]
theorem rs_rsz {y : Ob} {tn : Int32} {a : Nat} {sz : Nat → Nat} (hw : GW G) (hn : GN G) (hs : GS G) (ha : gI G a = true) (hr : RepS y (gL G) (gR G) (gU G) sz (gr G) tn) (h4 : ∀ j, ¬ onWay G a j → sz j = gs G j) : ∃ y', fX3_resizeUpFrom (nI a) y = some y' ∧ RepS y' (gL G) (gR G) (gU G) (gs G) (gr G) tn ∧ y'.2 4 = y.2 4 := by
  have w1 := hw.w1 ha
  have a1 := hw.1 a ha
  obtain ⟨y', f, r, o⟩ := rs_rszL (tn := tn) (y := y) hw hn hs ha 63 a 0 FU y sz hr ⟨ha, a1.2.1, a1.2.2.1⟩ (by omega) (by decide) (by omega) (fun j hj => by
    rcases hj with q | q
    · exact h4 j q
    · refine h4 j (fun o => ?_)
      -- a key with a in its interval is as wide as a, at least
      have ho : onWay G a a := ⟨ha, a1.2.1, a1.2.2.1⟩
      obtain ⟨n, e1⟩ := pth_of hw 64 j o (by omega)
      obtain ⟨n2, e2⟩ := pth_of hw 64 a ho (by omega)
      rcases Nat.lt_trichotomy n n2 with z | z | z
      · have := pth_wid hw a1.1 (n2 - n - 1) n j a e1 (by rw [show n + (n2 - n - 1 + 1) = n2 by omega]; exact e2)
        omega
      · rw [z, e2] at e1; cases e1; omega
      · have s2 : pth G a (n2 + 1) = none := by rw [pth_s e2, if_neg (by omega), if_neg (by omega)]
        have := pth_n s2 (n - n2 - 1)
        rw [show n2 + 1 + (n - n2 - 1) = n by omega, e1] at this; cases this)
  exact ⟨y', f, r, o⟩
end PW
