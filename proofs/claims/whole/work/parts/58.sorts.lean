section SO
variable {t : Nat} {x y : Ob} {G : Gh} {tn : Int32}
/-- the reference sorts the keys of a piece -/
theorem rm_sorts (hw : GW G) (ht : t < 8) {A0 B0 : Nat} (hB0 : B0 ≤ 64) : ∀ (d A B : Nat) (o : Option Nat) (x : Ob), A0 ≤ A → A ≤ B → B ≤ B0 → B - A < d → RepM x t (gL G) (gR G) (gU G) (gr G) (gI G) →
    (o = none → ∀ j, gI G j = true → ¬ (A ≤ j ∧ j < B)) → (∀ k, o = some k → gI G k = true ∧ glo G k = A ∧ ghi G k = B) →
    x.1 15 = nI (cnt (gI G) A0 (A - A0)) → (∀ k, gI G k = true → A0 ≤ k → k < A → x.2 14 (cnt (gI G) A0 (k - A0)) = nI k) →
    ∃ x', fX6_sorts d (nI t) (enc o) x = some x' ∧ Fr [15] [14] t x x' ∧ x'.1 15 = nI (cnt (gI G) A0 (B - A0)) ∧ (∀ k, gI G k = true → A0 ≤ k → k < B → x'.2 14 (cnt (gI G) A0 (k - A0)) = nI k) := by
  intro d
  induction d with
  | zero => intro A B o x h1 h2 h3 h4; omega
  | succ d ih =>
    intro A B o x h1 h2 h3 h4 hm hn hs h15 h14
    cases o with
    | none =>
      have e : cnt (gI G) A0 (B - A0) = cnt (gI G) A0 (A - A0) := by
        have q := cnt_split (gI G) A0 (A - A0) (B - A)
        rw [show A - A0 + (B - A) = B - A0 by omega, show A0 + (A - A0) = A by omega] at q
        rw [q, cnt_zero (fun j q1 q2 q3 => hn rfl j q3 ⟨q1, by omega⟩), Nat.add_zero]
      refine ⟨x, ?_, Fr.rf _ _ _ _, by rw [e]; exact h15, fun k q1 q2 q3 => h14 k q1 q2 ?_⟩
      · rw [fX6_sorts, enc_n, if_pos m1_lt]
      · rcases Nat.lt_or_ge k A with w | w
        · exact w
        · exact absurd ⟨w, q3⟩ (hn rfl k q1)
    | some k =>
      obtain ⟨hk, e1, e2⟩ := hs k rfl
      have bk := hw.1 k hk
      have hm2 : ∀ {x' : Ob}, Fr [15] [14] t x x' → RepM x' t (gL G) (gR G) (gU G) (gr G) (gI G) := by
        intro x' f
        obtain ⟨b1, b2, b3, b4, b5⟩ := hm
        refine ⟨?_, ?_, ?_, ?_, by rw [f.2.1 3 (by decide)]; exact b5⟩
        · intro k hk; show x'.2 7 _ = _; rw [f.2.1 7 (by decide)]; exact b1 k hk
        · intro k hk; show x'.2 5 _ = _; rw [f.2.1 5 (by decide)]; exact b2 k hk
        · intro k hk; show x'.2 6 _ = _; rw [f.2.1 6 (by decide)]; exact b3 k hk
        · intro k hk; show x'.2 4 _ = _; rw [f.2.1 4 (by decide)]; exact b4 k hk
      have eL : x.2 5 (64 * t + k) = enc (gL G k) := hm.2.1 k hk
      obtain ⟨x1, a1, a2, a3, a4⟩ := ih A k (gL G k) x h1 (by omega) (by omega) (by omega) hm (fun q j hj w => hw.2.2.2.1 k j hk q hj (by omega)) (fun c hc => by have := hw.2.1 k c hk hc; exact ⟨this.1, by omega, by omega⟩) h15 h14
      have p64 : cnt (gI G) A0 (k - A0) < 64 := by have := cnt_le (gI G) A0 (k - A0); omega
      have kin := cnt_in (gI G) A0 (show A0 ≤ k by omega) hk
      have f2 : Fr [15] [14] t x1 (ob_i (ob_a x1 14 (cnt (gI G) A0 (k - A0)) (nI k)) 15 (nI (cnt (gI G) A0 (k + 1 - A0)))) := by
        refine ⟨fun i hi => ?_, fun c hc => ?_, fun c i hc hi => ?_⟩
        · show va_up x1.1 15 _ i = x1.1 i
          rw [vup_at, if_neg (fun e => hi (by rw [e]; decide))]
        · show (ob_a x1 14 _ _).2 c = _
          rw [ar_n _ _ _ (fun e => hc (by rw [e]; decide))]
        · show (ob_a x1 14 _ _).2 c i = _
          rw [ar_n _ _ _ (by omega)]
      have eR : (ob_i (ob_a x1 14 (cnt (gI G) A0 (k - A0)) (nI k)) 15 (nI (cnt (gI G) A0 (k + 1 - A0)))).2 6 (64 * t + k) = enc (gR G k) := (hm2 (a2.tr f2)).2.2.1 k hk
      have e14 : ∀ j, gI G j = true → A0 ≤ j → j < k + 1 → (ob_i (ob_a x1 14 (cnt (gI G) A0 (k - A0)) (nI k)) 15 (nI (cnt (gI G) A0 (k + 1 - A0)))).2 14 (cnt (gI G) A0 (j - A0)) = nI j := by
        intro j q1 q2 q3
        show (ob_a x1 14 _ _).2 14 _ = _
        rw [ar_a, upd_at]
        by_cases e : j = k
        · rw [e, if_pos rfl]
        · have := cnt_in (gI G) A0 q2 q1
          have := cnt_mono (gI G) A0 (show j + 1 - A0 ≤ k - A0 by omega)
          rw [if_neg (by omega)]; exact a4 j q1 q2 (by omega)
      have e15 : (ob_i (ob_a x1 14 (cnt (gI G) A0 (k - A0)) (nI k)) 15 (nI (cnt (gI G) A0 (k + 1 - A0)))).1 15 = nI (cnt (gI G) A0 (k + 1 - A0)) := rfl
      have unf : fX6_sorts (d + 1) (nI t) (enc (some k)) x = Option.bind (fX6_sorts d (nI t) (enc (gR G k)) (ob_i (ob_a x1 14 (cnt (gI G) A0 (k - A0)) (nI k)) 15 (nI (cnt (gI G) A0 (k + 1 - A0))))) (fun q => some q) := by
        have e0 : (ob_a x1 14 (cnt (gI G) A0 (k - A0)) (nI k)).1 15 + 1 = nI (cnt (gI G) A0 (k + 1 - A0)) := by
          show x1.1 15 + 1 = _
          rw [a3, nI_1, kin]
        rw [fX6_sorts, enc_s, if_neg (nI_pos (by omega)), ix6 ht bk.1, eL, a1, Option.bind_some, a3, ix_nI p64 (by decide), px_let, px_let, ix6 ht bk.1, e0, eR]
      generalize ob_i (ob_a x1 14 (cnt (gI G) A0 (k - A0)) (nI k)) 15 (nI (cnt (gI G) A0 (k + 1 - A0))) = x2 at f2 eR e14 e15 unf
      obtain ⟨x3, c1, c2, c3, c4⟩ := ih (k + 1) B (gR G k) x2 (by omega) (by omega) h3 (by omega) (hm2 (a2.tr f2)) (fun q j hj w => hw.2.2.2.2.1 k j hk q hj (by omega)) (fun c hc => by have := hw.2.2.1 k c hk hc; exact ⟨this.1, by omega, by omega⟩) e15 e14
      exact ⟨x3, by rw [unf, c1]; rfl, (a2.tr f2).tr c2, c3, c4⟩
/-- the least and the greatest under a key -/
theorem rs_leastL (hw : GW G) (hr : RepS y (gL G) (gR G) (gU G) (gs G) (gr G) tn) {A : Nat} : ∀ (m a n st : Nat), gI G a = true → glo G a = A → wid G a ≤ m → m < n → st + m ≤ 64 → ∃ l, fX3_leastUnder_L4 n (nI a) (nI st) y = some (nI l) ∧ gI G l = true ∧ glo G l = A ∧ gL G l = none := by
  intro m
  induction m with
  | zero => intro a n st ha h1 h2; have := hw.w1 ha; omega
  | succ m ih =>
    intro a n st ha h1 h2 h3 h4
    obtain ⟨n, rfl⟩ := Nat.exists_eq_succ_of_ne_zero (by omega : n ≠ 0)
    have ba := hw.1 a ha
    have e1 : fX3_leftOf (nI a) y = some (enc (gL G a)) := by
      have := rs_left hr (Bd_s ba.1); rw [enc_s, Option.bind_some] at this; exact this
    cases hL : gL G a with
    | none =>
      refine ⟨a, ?_, ha, h1, hL⟩
      rw [fX3_leastUnder_L4, if_neg (st64 (by omega)), e1, Option.bind_some, hL, enc_n, if_pos rfl]
    | some c =>
      obtain ⟨c1, c2, c3, c4⟩ := hw.2.1 a c ha hL
      have bc := hw.1 c c1
      obtain ⟨l, f1, f2⟩ := ih c n (st + 1) c1 (by omega) (by unfold wid at *; omega) (by omega) (by omega)
      refine ⟨l, ?_, f2⟩
      rw [fX3_leastUnder_L4, if_neg (st64 (by omega)), e1, Option.bind_some, hL, enc_s, if_neg (nI_ne_m1 (by omega)), Option.bind_some, px_let, nI_1, f1]
theorem rs_greatL (hw : GW G) (hr : RepS y (gL G) (gR G) (gU G) (gs G) (gr G) tn) {B : Nat} : ∀ (m a n st : Nat), gI G a = true → ghi G a = B → wid G a ≤ m → m < n → st + m ≤ 64 → ∃ l, fX3_greatestUnder_L4 n (nI a) (nI st) y = some (nI l) ∧ gI G l = true ∧ ghi G l = B ∧ gR G l = none := by
  intro m
  induction m with
  | zero => intro a n st ha h1 h2; have := hw.w1 ha; omega
  | succ m ih =>
    intro a n st ha h1 h2 h3 h4
    obtain ⟨n, rfl⟩ := Nat.exists_eq_succ_of_ne_zero (by omega : n ≠ 0)
    have ba := hw.1 a ha
    have e1 : fX3_rightOf (nI a) y = some (enc (gR G a)) := by
      have := rs_right hr (Bd_s ba.1); rw [enc_s, Option.bind_some] at this; exact this
    cases hL : gR G a with
    | none =>
      refine ⟨a, ?_, ha, h1, hL⟩
      rw [fX3_greatestUnder_L4, if_neg (st64 (by omega)), e1, Option.bind_some, hL, enc_n, if_pos rfl]
    | some c =>
      obtain ⟨c1, c2, c3, c4⟩ := hw.2.2.1 a c ha hL
      have bc := hw.1 c c1
      obtain ⟨l, f1, f2⟩ := ih c n (st + 1) c1 (by omega) (by unfold wid at *; omega) (by omega) (by omega)
      refine ⟨l, ?_, f2⟩
      rw [fX3_greatestUnder_L4, if_neg (st64 (by omega)), e1, Option.bind_some, hL, enc_s, if_neg (nI_ne_m1 (by omega)), Option.bind_some, px_let, nI_1, f1]
theorem rs_least (hw : GW G) (hr : RepS y (gL G) (gR G) (gU G) (gs G) (gr G) tn) {a : Nat} (ha : gI G a = true) : ∃ l, fX3_leastUnder (nI a) y = some (nI l) ∧ gI G l = true ∧ glo G l = glo G a ∧ gL G l = none := by
  have := hw.w1 ha
  exact rs_leastL hw hr 64 a FU 0 ha rfl (by omega) (by decide) (by omega)
theorem rs_great (hw : GW G) (hr : RepS y (gL G) (gR G) (gU G) (gs G) (gr G) tn) {a : Nat} (ha : gI G a = true) : ∃ l, fX3_greatestUnder (nI a) y = some (nI l) ∧ gI G l = true ∧ ghi G l = ghi G a ∧ gR G l = none := by
  have := hw.w1 ha
  exact rs_greatL hw hr 64 a FU 0 ha rfl (by omega) (by decide) (by omega)
/-- the class gathers the keys of a piece -/
theorem rs_order (hw : GW G) (hs : GS G) {A B l g : Nat} (hB : B ≤ 64) (hl : ∀ j, gI G j = true → (l ≤ j ↔ A ≤ j)) (hg : ∀ j, gI G j = true → (j ≤ g ↔ j < B)) (hl64 : l < 64) (hg64 : g < 64) {v2 : Int32} : ∀ (m j n : Nat) (y : Ob), m + j = 64 → m < n → RepS y (gL G) (gR G) (gU G) (gs G) (gr G) tn →
    (∀ k, gI G k = true → A ≤ k → k < B → k < j → y.2 4 (cnt (gI G) A (k - A)) = nI k) →
    ∃ y', fX3_makeEven_L31 n v2 (nI l) (nI g) (nI (cnt (gI G) A (min j B - A))) (nI j) y = fX3_makeEven_J80 v2 (nI (cnt (gI G) A (B - A))) y' ∧ RepS y' (gL G) (gR G) (gU G) (gs G) (gr G) tn ∧ (∀ k, gI G k = true → A ≤ k → k < B → y'.2 4 (cnt (gI G) A (k - A)) = nI k) := by
  intro m
  induction m with
  | zero =>
    intro j n y h1 h2 hr hy
    obtain ⟨n, rfl⟩ := Nat.exists_eq_succ_of_ne_zero (by omega : n ≠ 0)
    refine ⟨y, ?_, hr, fun k q1 q2 q3 => hy k q1 q2 q3 (by omega)⟩
    rw [fX3_makeEven_L31, show j = 64 by omega, if_pos (by decide), show min 64 B = B by omega]
  | succ m ih =>
    intro j n y h1 h2 hr hy
    obtain ⟨n, rfl⟩ := Nat.exists_eq_succ_of_ne_zero (by omega : n ≠ 0)
    have hj : j < 64 := by omega
    have e1 : fX3_sizeOf (nI j) y = some (nI (gs G j)) := by
      have := rs_size hr (Bd_s hj); rw [enc_s] at this; exact this
    have s2 := GS.le hw hs j
    by_cases hI : gI G j = true
    · have hh : fX3_holds (nI j) y = some 1 := by
        have := (hs j).1 hI
        rw [fX3_holds, e1, Option.bind_some, if_neg (nI_nle (by omega) (by omega))]
      by_cases q1 : A ≤ j
      · by_cases q2 : j < B
        · have kin := cnt_in (gI G) A q1 hI
          have p64 : cnt (gI G) A (j - A) < 64 := by have := cnt_le (gI G) A (j - A); omega
          obtain ⟨y', f1, f2, f3⟩ := ih (j + 1) n (ob_f y 4 (upd (y.2 4) (cnt (gI G) A (j - A)) (nI j))) (by omega) (by omega) ⟨hr.1, hr.2.1, hr.2.2.1, hr.2.2.2.1, hr.2.2.2.2.1, hr.2.2.2.2.2⟩ (fun k w1 w2 w3 w4 => by
            show upd (y.2 4) _ (nI j) _ = nI k
            rw [upd_at]
            by_cases e : k = j
            · rw [e, if_pos rfl]
            · have := cnt_in (gI G) A w2 w1
              have := cnt_mono (gI G) A (show k + 1 - A ≤ j - A by omega)
              rw [if_neg (by omega)]; exact hy k w1 w2 w3 (by omega))
          refine ⟨y', ?_, f2, f3⟩
          rw [fX3_makeEven_L31, if_neg (st64 hj), hh, Option.bind_some, if_neg (by decide), if_neg (nI_nlt ((hl j hI).mpr q1) (by omega)), if_neg (nI_nlt ((hg j hI).mpr q2) (by omega)), show min j B = j by omega, put_in p64 (by decide), Option.bind_some, px_let, px_let, fX3_makeEven_J74, px_let, nI_1, nI_1]
          rw [← kin, show j + 1 - A = min (j + 1) B - A by omega]; exact f1
        · obtain ⟨y', f1, f2, f3⟩ := ih (j + 1) n y (by omega) (by omega) hr (fun k w1 w2 w3 w4 => hy k w1 w2 w3 (by omega))
          refine ⟨y', ?_, f2, f3⟩
          rw [fX3_makeEven_L31, if_neg (st64 hj), hh, Option.bind_some, if_neg (by decide), if_neg (nI_nlt ((hl j hI).mpr q1) (by omega)), if_pos (nI_lt (by have := hg j hI; omega) (by omega)), fX3_makeEven_J74, px_let, nI_1, show min j B = min (j + 1) B by omega]; exact f1
      · obtain ⟨y', f1, f2, f3⟩ := ih (j + 1) n y (by omega) (by omega) hr (fun k w1 w2 w3 w4 => hy k w1 w2 w3 (by omega))
        refine ⟨y', ?_, f2, f3⟩
        rw [fX3_makeEven_L31, if_neg (st64 hj), hh, Option.bind_some, if_neg (by decide), if_pos (nI_lt (by have := hl j hI; omega) (by omega)), fX3_makeEven_J74, px_let, nI_1, show min j B - A = min (j + 1) B - A by omega]; exact f1
    · have hI0 : gI G j = false := by cases q : gI G j with | false => rfl | true => exact absurd q hI
      have hh : fX3_holds (nI j) y = some 0 := by
        have := (hs j).2 hI0
        rw [fX3_holds, e1, Option.bind_some, this, if_pos (by decide)]
      obtain ⟨y', f1, f2, f3⟩ := ih (j + 1) n y (by omega) (by omega) hr (fun k w1 w2 w3 w4 => hy k w1 w2 w3 (by
        by_cases e : k = j
        · rw [e] at w1; exact absurd w1 hI
        · omega))
      refine ⟨y', ?_, f2, f3⟩
      have e : cnt (gI G) A (min j B - A) = cnt (gI G) A (min (j + 1) B - A) := by
        by_cases q : A ≤ j ∧ j < B
        · rw [show min (j + 1) B - A = (min j B - A) + 1 by omega, cnt_s, show A + (min j B - A) = j by omega, if_neg hI]; rfl
        · rw [show min (j + 1) B - A = min j B - A by omega]
      rw [fX3_makeEven_L31, if_neg (st64 hj), hh, Option.bind_some, if_pos rfl, fX3_makeEven_J74, px_let, nI_1, e]; exact f1
end SO
