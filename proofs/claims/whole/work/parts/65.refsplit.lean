/-! the reference's SPLIT: b says which of the two trees -/
def cIb (G : Gh) (c : Nat) (b : Bool) : Nat → Bool := if b = true then cI1 G c else cI2 G c
def cUb (G : Gh) (c : Nat) (b : Bool) : Nat → Option Nat := if b = true then cU1 G c else cU2 G c
def tib (t s : Nat) (b : Bool) : Nat := if b = true then t else s
section RS
variable {t s : Nat} {x : Ob} {G : Gh} {c : Nat}
theorem cIb_in {k : Nat} {b : Bool} (h : cIb G c b k = true) : gI G k = true ∧ b = decide (k < c) := by
  cases b with
  | true => obtain ⟨q1, q2⟩ := cI1_i.mp (show cI1 G c k = true from h); exact ⟨q1, by simp [q2]⟩
  | false => obtain ⟨q1, q2⟩ := cI2_i.mp (show cI2 G c k = true from h); exact ⟨q1, by simp; omega⟩
theorem cIb_of {k : Nat} {b : Bool} (h : gI G k = true) (hb : b = decide (k < c)) : cIb G c b k = true := by
  cases b with
  | true => exact cI1_i.mpr ⟨h, by simpa using hb.symm⟩
  | false => exact cI2_i.mpr ⟨h, by have : ¬ k < c := by simpa using hb.symm
                                    omega⟩
theorem cUb_eq {k : Nat} {b : Bool} (hb : b = decide (k < c)) : cUb G c b k = cU G c k := by
  cases b with
  | true =>
    have : k < c := by simpa using hb.symm
    show cU1 G c k = _
    rw [cU, if_pos this]
  | false =>
    have : ¬ k < c := by simpa using hb.symm
    show cU2 G c k = _
    rw [cU, if_neg this]
theorem cUb_par (hw : GW G) (hc : c < 64) {b : Bool} {k u : Nat} (hk : cIb G c b k = true) (hu : cUb G c b k = some u) : cIb G c b u = true ∧ k ≠ u := by
  cases b with
  | true => have := c1_par hw hc hk hu; exact ⟨this.1, by omega⟩
  | false => have := c2_par hw hc hk hu; exact ⟨this.1, by omega⟩
theorem tib_lt (ht : t < 8) (hs : s < 8) (b : Bool) : tib t s b < 8 := by cases b <;> simp [tib] <;> assumption
theorem tib_ne (h : t ≠ s) {b b' : Bool} (hb : b ≠ b') : tib t s b ≠ tib t s b' := by
  cases b <;> cases b' <;> simp [tib] at * <;> omega
theorem tib_T {d i : Nat} {b : Bool} (h : inT d (tib t s b) i) : 14 ≤ d ∨ inT d t i ∨ inT d s i := by
  cases b with
  | true => exact Or.inr (Or.inl h)
  | false => exact Or.inr (Or.inr h)
abbrev SC : List Nat := [3, 4, 5, 6, 7, 8, 11, 18]
/-- the draft -/
theorem sp_draft (hw : GW G) (ht : t < 8) (hc : c < 64) {v3 : Int32} : ∀ (m j n : Nat) (x : Ob), m + j = 64 → m < n → RepM x t (gL G) (gR G) (gU G) (gr G) (gI G) → (∀ k, k < j → x.2 18 k = enc (cU G c k)) →
    ∃ x', fX6_split_L45 n (nI t) (nI c) v3 (nI j) x = fX6_split_J92 (nI t) (nI c) v3 x' ∧ Fr2 [] SC t s x x' ∧ (∀ d, d ≠ 18 → x'.2 d = x.2 d) ∧ (∀ k, k < 64 → x'.2 18 k = enc (cU G c k)) := by
  intro m
  induction m with
  | zero =>
    intro j n x h1 h2 hr hd
    obtain ⟨n, rfl⟩ := Nat.exists_eq_succ_of_ne_zero (by omega : n ≠ 0)
    exact ⟨x, by rw [fX6_split_L45, show j = 64 by omega, if_pos (by decide)], Fr2.rf _ _ _ _ _, fun _ _ => rfl, fun k hk => hd k (by omega)⟩
  | succ m ih =>
    intro j n x h1 h2 hr hd
    obtain ⟨n, rfl⟩ := Nat.exists_eq_succ_of_ne_zero (by omega : n ≠ 0)
    have hj : j < 64 := by omega
    have e7 : x.2 7 (64 * t + j) = if gI G j = true then 1 else 0 := hr.1 j hj
    have step : fX6_split_L45 (n + 1) (nI t) (nI c) v3 (nI j) x = fX6_split_L45 n (nI t) (nI c) v3 (nI (j + 1)) (ob_a x 18 j (enc (cU G c j))) := by
      rw [fX6_split_L45, if_neg (st64 hj), ix6 ht hj, e7]
      cases q : gI G j with
      | false => rw [show (if false = true then (1 : Int32) else 0) = 0 from rfl, if_pos rfl, fX6_split_J85, ix_nI hj (by decide), px_let, px_let, nI_1, cU_no q]; rfl
      | true => rw [show (if true = true then (1 : Int32) else 0) = 1 from rfl, if_neg (by decide), rm_near hw hr ht hc q, Option.bind_some, fX6_split_J85, ix_nI hj (by decide), px_let, px_let, nI_1]
    have o : ∀ d, d ≠ 18 → (ob_a x 18 j (enc (cU G c j))).2 d = x.2 d := fun d hd => ar_n _ _ _ hd
    obtain ⟨x', f1, f2, f3, f4⟩ := ih (j + 1) n (ob_a x 18 j (enc (cU G c j))) (by omega) (by omega) (by
      obtain ⟨b1, b2, b3, b4, b5⟩ := hr
      refine ⟨?_, ?_, ?_, ?_, by rw [o 3 (by decide)]; exact b5⟩
      · intro k hk; show (ob_a x 18 j _).2 7 _ = _; rw [o 7 (by decide)]; exact b1 k hk
      · intro k hk; show (ob_a x 18 j _).2 5 _ = _; rw [o 5 (by decide)]; exact b2 k hk
      · intro k hk; show (ob_a x 18 j _).2 6 _ = _; rw [o 6 (by decide)]; exact b3 k hk
      · intro k hk; show (ob_a x 18 j _).2 4 _ = _; rw [o 4 (by decide)]; exact b4 k hk) (fun k hk => by
        rw [ga]
        by_cases e : k = j
        · rw [if_pos ⟨rfl, e⟩, e]
        · rw [if_neg (fun q => e q.2)]; exact hd k (by omega))
    refine ⟨x', step.trans f1, (Fr2.a _ _ _ (by decide) (Or.inl (by decide))).tr f2, fun d hd => (f3 d hd).trans (o d hd), f4⟩
/-- the keys go to their trees -/
theorem sp_move (hts : t ≠ s) (ht : t < 8) (hs : s < 8) (hc : c < 64) : ∀ (m j n : Nat) (x : Ob), m + j = 64 → m < n →
    (∀ k, j ≤ k → k < 64 → x.2 7 (64 * t + k) = (if gI G k = true then 1 else 0) ∧ x.2 7 (64 * s + k) = 0) →
    (∀ b k, k < j → x.2 7 (64 * tib t s b + k) = if cIb G c b k = true then 1 else 0) → (∀ b k, k < j → cIb G c b k = true → x.2 5 (64 * tib t s b + k) = -1 ∧ x.2 6 (64 * tib t s b + k) = -1) →
    ∃ x', fX6_split_L102 n (nI t) (nI c) (nI s) (nI j) x = fX6_split_J198 (nI t) (nI c) (nI s) x' ∧ Fr2 [] SC t s x x' ∧ (∀ d, d ∉ [5, 6, 7] → x'.2 d = x.2 d) ∧ (∀ b k, k < 64 → x'.2 7 (64 * tib t s b + k) = if cIb G c b k = true then 1 else 0) ∧ (∀ b k, k < 64 → cIb G c b k = true → x'.2 5 (64 * tib t s b + k) = -1 ∧ x'.2 6 (64 * tib t s b + k) = -1) := by
  intro m
  induction m with
  | zero =>
    intro j n x h1 h2 h3 h4 h5
    obtain ⟨n, rfl⟩ := Nat.exists_eq_succ_of_ne_zero (by omega : n ≠ 0)
    exact ⟨x, by rw [fX6_split_L102, show j = 64 by omega, if_pos (by decide)], Fr2.rf _ _ _ _ _, fun _ _ => rfl, fun b k hk => h4 b k (by omega), fun b k hk => h5 b k (by omega)⟩
  | succ m ih =>
    intro j n x h1 h2 h3 h4 h5
    obtain ⟨n, rfl⟩ := Nat.exists_eq_succ_of_ne_zero (by omega : n ≠ 0)
    have hj : j < 64 := by omega
    obtain ⟨e7, e7s⟩ := h3 j (Nat.le_refl _) hj
    cases q : gI G j with
    | false =>
      obtain ⟨x', f1, f2⟩ := ih (j + 1) n x (by omega) (by omega) (fun k k1 k2 => h3 k (by omega) k2) (fun b k hk => by
        by_cases e : k = j
        · subst e
          have : cIb G c b k ≠ true := fun w => by rw [(cIb_in w).1] at q; cases q
          rw [if_neg this]
          cases b with
          | true => show x.2 7 (64 * t + k) = 0; rw [e7, q]; rfl
          | false => exact e7s
        · exact h4 b k (by omega)) (fun b k hk hb => by
        by_cases e : k = j
        · subst e; rw [(cIb_in hb).1] at q; cases q
        · exact h5 b k (by omega) hb)
      refine ⟨x', ?_, f2⟩
      rw [fX6_split_L102, if_neg (st64 hj), ix6 ht hj, e7, q, show (if false = true then (1 : Int32) else 0) = 0 from rfl, if_pos rfl, fX6_split_J192, px_let, nI_1, f1]
    | true =>
      have hto : ∃ b, b = decide (j < c) ∧ fX6_split_L102 (n + 1) (nI t) (nI c) (nI s) (nI j) x = fX6_split_J135 (fX6_split_L102 n) (nI t) (nI c) (nI s) (nI j) (nI (tib t s b)) x := by
        refine ⟨decide (j < c), rfl, ?_⟩
        rw [fX6_split_L102, if_neg (st64 hj), ix6 ht hj, e7, q, show (if true = true then (1 : Int32) else 0) = 1 from rfl, if_neg (by decide)]
        by_cases w : c ≤ j
        · rw [if_pos (nI_le w (by omega)), show decide (j < c) = false by simp; omega]; rfl
        · rw [if_neg (nI_ge (by omega) (by omega)), show decide (j < c) = true by simp; omega]; rfl
      obtain ⟨b, hb, hto⟩ := hto
      have hb8 := tib_lt ht hs b
      have step : fX6_split_L102 (n + 1) (nI t) (nI c) (nI s) (nI j) x = fX6_split_L102 n (nI t) (nI c) (nI s) (nI (j + 1)) (ob_a (ob_a (ob_a (ob_a x 7 (64 * t + j) 0) 7 (64 * tib t s b + j) 1) 5 (64 * tib t s b + j) (-1)) 6 (64 * tib t s b + j) (-1)) := by
        rw [hto, fX6_split_J135, ix6 ht hj, px_let, ix6 hb8 hj, px_let, ix6 hb8 hj, px_let, ix6 hb8 hj, px_let, fX6_split_J192, px_let, nI_1, nar0, nar1]
      have g7 : ∀ i, (ob_a (ob_a (ob_a (ob_a x 7 (64 * t + j) 0) 7 (64 * tib t s b + j) 1) 5 (64 * tib t s b + j) (-1)) 6 (64 * tib t s b + j) (-1)).2 7 i = if i = 64 * tib t s b + j then 1 else if i = 64 * t + j then 0 else x.2 7 i := by
        intro i; simp only [ga]; simp
      have g5 : ∀ i, (ob_a (ob_a (ob_a (ob_a x 7 (64 * t + j) 0) 7 (64 * tib t s b + j) 1) 5 (64 * tib t s b + j) (-1)) 6 (64 * tib t s b + j) (-1)).2 5 i = if i = 64 * tib t s b + j then -1 else x.2 5 i := by
        intro i; simp only [ga]; simp
      have g6 : ∀ i, (ob_a (ob_a (ob_a (ob_a x 7 (64 * t + j) 0) 7 (64 * tib t s b + j) 1) 5 (64 * tib t s b + j) (-1)) 6 (64 * tib t s b + j) (-1)).2 6 i = if i = 64 * tib t s b + j then -1 else x.2 6 i := by
        intro i; simp only [ga]; simp
      have o : ∀ d, d ∉ [5, 6, 7] → (ob_a (ob_a (ob_a (ob_a x 7 (64 * t + j) 0) 7 (64 * tib t s b + j) 1) 5 (64 * tib t s b + j) (-1)) 6 (64 * tib t s b + j) (-1)).2 d = x.2 d := by
        intro d hd
        simp at hd
        rw [ar_n _ _ _ (by omega), ar_n _ _ _ (by omega), ar_n _ _ _ (by omega), ar_n _ _ _ (by omega)]
      have fr : Fr2 [] SC t s x (ob_a (ob_a (ob_a (ob_a x 7 (64 * t + j) 0) 7 (64 * tib t s b + j) 1) 5 (64 * tib t s b + j) (-1)) 6 (64 * tib t s b + j) (-1)) := by
        refine (((Fr2.a _ _ _ (by decide) (Or.inr (Or.inl (inT4 (by decide) hj)))).tr (Fr2.a _ _ _ (by decide) (tib_T (b := b) (inT4 (by decide) hj)))).tr (Fr2.a _ _ _ (by decide) (tib_T (b := b) (inT4 (by decide) hj)))).tr (Fr2.a _ _ _ (by decide) (tib_T (b := b) (inT4 (by decide) hj)))
      generalize ob_a (ob_a (ob_a (ob_a x 7 (64 * t + j) 0) 7 (64 * tib t s b + j) 1) 5 (64 * tib t s b + j) (-1)) 6 (64 * tib t s b + j) (-1) = x2 at *
      have tb : tib t s b = t ∨ tib t s b = s := by cases b <;> simp [tib]
      obtain ⟨x', f1, f2, f3, f4⟩ := ih (j + 1) n x2 (by omega) (by omega) (fun k k1 k2 => by
        have := h3 k (by omega) k2
        exact ⟨by rw [g7, if_neg (by omega), if_neg (by omega)]; exact this.1, by rw [g7, if_neg (by omega), if_neg (by omega)]; exact this.2⟩) (fun b' k hk => by
        rw [g7]
        by_cases e : k = j
        · subst e
          by_cases eb : b' = b
          · rw [eb, if_pos rfl, if_pos (cIb_of q hb)]
          · have hne := tib_ne hts eb
            have : ¬ cIb G c b' k = true := fun w => eb (by rw [(cIb_in w).2, hb])
            rw [if_neg (by omega), if_neg this]
            cases b' with
            | true => show (if 64 * t + k = 64 * t + k then 0 else x.2 7 (64 * t + k)) = 0; rw [if_pos rfl]
            | false =>
              show (if 64 * s + k = 64 * t + k then 0 else x.2 7 (64 * s + k)) = 0
              rw [if_neg (by omega)]; exact e7s
        · have tb' : tib t s b' = t ∨ tib t s b' = s := by cases b' <;> simp [tib]
          rw [if_neg (by omega), if_neg (by omega)]; exact h4 b' k (by omega)) (fun b' k hk hb' => by
        rw [g5, g6]
        by_cases e : k = j
        · subst e
          have : b' = b := by rw [(cIb_in hb').2, hb]
          rw [this, if_pos rfl, if_pos rfl]; exact ⟨rfl, rfl⟩
        · rw [if_neg (by omega), if_neg (by omega)]; exact h5 b' k (by omega) hb')
      exact ⟨x', step.trans f1, fr.tr f2, fun d hd => (f3 d hd).trans (o d hd), f4⟩
end RS
