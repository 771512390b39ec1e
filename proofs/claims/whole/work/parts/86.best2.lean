section B2
variable {oc : Nat → Nat} {nn fr to : Nat} {x w : Ob}
theorem i65 (a b : Nat) : (65 : Int32) * nI a + nI b = nI (65 * a + b) := by
  show nI 65 * nI a + nI b = _
  rw [pk_mul, nI_add]
theorem i65b (a b : Nat) : nI a * (65 : Int32) + nI b = nI (65 * a + b) := by
  show nI a * nI 65 + nI b = _
  rw [pk_mul, nI_add, Nat.mul_comm]
theorem sme_64 (hoc : ∀ i, oc i ≤ 100) {j : Nat} (h : j ≤ 64) : sme oc j ≤ 6400 := by have := sme_le hoc j; omega
theorem vl_sm (hoc : ∀ i, oc i ≤ 100) (hnn : nn ≤ 64) {i j r : Nat} (h1 : i ≤ r) (h2 : r < j) (h3 : j ≤ nn) : vl oc i j r ≤ 819200 := by
  have a := cs_sm (oc := oc) hoc hnn (i := i) (j := r) h1 (by omega)
  have b := cs_sm (oc := oc) hoc hnn (i := r + 1) (j := j) (by omega) h3
  unfold vl; omega
theorem bo_5 (hnn : nn ≤ 64) (h19 : ∀ i, i < nn → x.2 19 i = nI (oc i)) (hto : to ≤ nn) : ∀ (m k n : Nat), m + k = to → fr ≤ k → m < n → fX6_bestOf_L5 n (nI fr) (nI to) (nI (sme oc k - sme oc fr)) (nI k) x = fX6_bestOf_J27 (nI fr) (nI to) (nI (sme oc to - sme oc fr)) x := by
  intro m
  induction m with
  | zero =>
    intro k n h1 h2 h3
    obtain ⟨n, rfl⟩ := Nat.exists_eq_succ_of_ne_zero (by omega : n ≠ 0)
    have e : k = to := by omega
    subst e
    rw [fX6_bestOf_L5, if_pos (nI_le (by omega) (by omega))]
  | succ m ih =>
    intro k n h1 h2 h3
    obtain ⟨n, rfl⟩ := Nat.exists_eq_succ_of_ne_zero (by omega : n ≠ 0)
    have mo := sme_mono oc (i := fr) (j := k) h2
    rw [fX6_bestOf_L5, if_neg (nI_ge (by omega) (by omega)), ix_nI (by omega) (by decide), px_let, px_let, h19 k (by omega), nI_add, nI_1, show sme oc k - sme oc fr + oc k = sme oc (k + 1) - sme oc fr by show _ = sme oc k + oc k - sme oc fr; omega, ih (k + 1) n (by omega) (by omega) (by omega)]
theorem bo_33 (hoc : ∀ i, oc i ≤ 100) (hnn : nn ≤ 64) (hto : to ≤ nn) : ∀ (m r n K : Nat) (x : Ob), m + r = to → fr < r → m < n → Lm oc fr to fr r K → x.2 21 (65 * fr + to) = nI K → (∀ i j, i ≤ j → j ≤ nn → j - i < to - fr → x.2 20 (65 * i + j) = nI (cs oc i j)) →
    ∃ (x' : Ob) (K' : Nat), fX6_bestOf_L33 n (nI fr) (nI to) (nI (sme oc to - sme oc fr)) (nI (sme oc to - sme oc fr + vl oc fr to K)) (nI r) x = some x' ∧ Kr oc fr to K' ∧ x'.2 20 = upd (x.2 20) (65 * fr + to) (nI (cs oc fr to)) ∧ x'.2 21 (65 * fr + to) = nI K' ∧ (∀ j, j ≠ 65 * fr + to → x'.2 21 j = x.2 21 j) ∧ x'.1 = x.1 ∧ (∀ d, d ∉ [20, 21] → x'.2 d = x.2 d) := by
  have sb := sme_64 (oc := oc) hoc (j := to) (by omega)
  intro m
  induction m with
  | zero =>
    intro r n K x h1 h2 h3 hL h21 hT
    obtain ⟨n, rfl⟩ := Nat.exists_eq_succ_of_ne_zero (by omega : n ≠ 0)
    have e : r = to := by omega
    subst e
    refine ⟨ob_a x 20 (65 * fr + r) (nI (cs oc fr r)), K, ?_, hL, ar_a _ _ _ _, by rw [ar_n _ _ _ (by decide)]; exact h21, fun j _ => by rw [ar_n _ _ _ (by decide)], rfl, fun d hd => ar_n _ _ _ (fun e => hd (by rw [e]; decide))⟩
    rw [fX6_bestOf_L33, if_pos (nI_le (by omega) (by omega)), fX6_bestOf_J105, i65, ix_nI (by omega) (by decide), px_let, ← Kr.val hL]
  | succ m ih =>
    intro r n K x h1 h2 h3 hL h21 hT
    obtain ⟨n, rfl⟩ := Nat.exists_eq_succ_of_ne_zero (by omega : n ≠ 0)
    have v1 := vl_sm (oc := oc) hoc hnn (i := fr) (j := to) (r := r) (by omega) (by omega) hto
    have v2 := vl_sm (oc := oc) hoc hnn (i := fr) (j := to) (r := K) hL.1 (by have := hL.2.1; omega) hto
    have st : fX6_bestOf_L33 (n + 1) (nI fr) (nI to) (nI (sme oc to - sme oc fr)) (nI (sme oc to - sme oc fr + vl oc fr to K)) (nI r) x = (if nI (sme oc to - sme oc fr + vl oc fr to K) ≤ nI (sme oc to - sme oc fr + vl oc fr to r) then fX6_bestOf_J99 (fX6_bestOf_L33 n) (nI fr) (nI to) (nI (sme oc to - sme oc fr)) (nI (sme oc to - sme oc fr + vl oc fr to K)) (nI r) x else fX6_bestOf_J82 (fX6_bestOf_L33 n) (nI fr) (nI to) (nI (sme oc to - sme oc fr)) (nI r) (nI (sme oc to - sme oc fr + vl oc fr to r)) x) := by
      rw [fX6_bestOf_L33, if_neg (nI_ge (by omega) (by omega)), i65, ix_nI (by omega) (by decide), nI_1, i65, ix_nI (by omega) (by decide), px_let, hT fr r (by omega) (by omega) (by omega), hT (r + 1) to (by omega) hto (by omega), nI_add, nI_add, if_neg (nI_pos (by omega)), show sme oc to - sme oc fr + cs oc fr r + cs oc (r + 1) to = sme oc to - sme oc fr + vl oc fr to r by unfold vl; omega]
    have hS := hL.step
    by_cases q : vl oc fr to r < vl oc fr to K
    · rw [if_pos q] at hS
      rw [if_neg (nI_ge (by omega) (by omega)), fX6_bestOf_J82, i65, ix_nI (by omega) (by decide), px_let, fX6_bestOf_J99, px_let, nI_1] at st
      obtain ⟨x', K', b1, b2, b3, b4, b5, b6, b7⟩ := ih (r + 1) n r (ob_a x 21 (65 * fr + to) (nI r)) (by omega) (by omega) (by omega) hS (by rw [ar_a, upd_at, if_pos rfl]) (by rw [ar_n _ _ _ (by decide)]; exact hT)
      exact ⟨x', K', by rw [st, b1], b2, by rw [b3, ar_n _ _ _ (by decide)], b4, fun j hj => by rw [b5 j hj, ar_a, upd_at, if_neg hj], b6, fun d hd => by rw [b7 d hd, ar_n _ _ _ (fun e => hd (by rw [e]; decide))]⟩
    · rw [if_neg q] at hS
      rw [if_pos (nI_le (by omega) (by omega)), fX6_bestOf_J99, px_let, nI_1] at st
      obtain ⟨x', K', b1, b2⟩ := ih (r + 1) n K x (by omega) (by omega) (by omega) hS h21 hT
      exact ⟨x', K', by rw [st, b1], b2⟩
theorem bo_ok (hoc : ∀ i, oc i ≤ 100) (hnn : nn ≤ 64) (hto : to ≤ nn) (hft : fr < to) (h19 : ∀ i, i < nn → x.2 19 i = nI (oc i)) (hT : ∀ i j, i ≤ j → j ≤ nn → j - i < to - fr → x.2 20 (65 * i + j) = nI (cs oc i j)) :
    ∃ (x' : Ob) (K' : Nat), fX6_bestOf (nI fr) (nI to) x = some x' ∧ Kr oc fr to K' ∧ x'.2 20 = upd (x.2 20) (65 * fr + to) (nI (cs oc fr to)) ∧ x'.2 21 (65 * fr + to) = nI K' ∧ (∀ j, j ≠ 65 * fr + to → x'.2 21 j = x.2 21 j) ∧ x'.1 = x.1 ∧ (∀ d, d ∉ [20, 21] → x'.2 d = x.2 d) := by
  have a := bo_5 (x := x) (fr := fr) hnn h19 hto (to - fr) fr FU (by omega) (Nat.le_refl _) (by show to - fr < 5000; omega)
  obtain ⟨x', K', b1, b2, b3, b4, b5, b6, b7⟩ := bo_33 (x := ob_a x 21 (65 * fr + to) (nI fr)) (fr := fr) hoc hnn hto (to - fr - 1) (fr + 1) 4999 fr (by omega) (by omega) (by omega) (Lm.one fr to fr) (by rw [ar_a, upd_at, if_pos rfl]) (by rw [ar_n _ _ _ (by decide)]; exact hT)
  refine ⟨x', K', ?_, b2, by rw [b3, ar_n _ _ _ (by decide)], b4, fun j hj => by rw [b5 j hj, ar_a, upd_at, if_neg hj], b6, fun d hd => by rw [b7 d hd, ar_n _ _ _ (fun e => hd (by rw [e]; decide))]⟩
  rw [Nat.sub_self] at a
  rw [fX6_bestOf]
  show fX6_bestOf_L5 FU (nI fr) (nI to) (nI 0) (nI fr) x = _
  rw [a, fX6_bestOf_J27, fu_s, fX6_bestOf_L33, if_neg (nI_ge hft (by omega)), i65, ix_nI (by omega) (by decide), nI_1, i65, ix_nI (by omega) (by decide), px_let, hT fr fr (by omega) (by omega) (by omega), hT (fr + 1) to (by omega) hto (by omega), nI_add, nI_add, if_pos m1_lt, fX6_bestOf_J82, i65, ix_nI (by omega) (by decide), px_let, fX6_bestOf_J99, px_let, nI_1, show sme oc to - sme oc fr + cs oc fr fr + cs oc (fr + 1) to = sme oc to - sme oc fr + vl oc fr to fr by unfold vl; omega, b1]
/-! the class -/
theorem sb_ok (hnn : nn ≤ 64) (hto : to ≤ nn) (hT : ∀ i j, i ≤ j → j ≤ nn → j - i < to - fr → w.2 3 (65 * i + j) = nI (cs oc i j)) {r : Nat} (h1 : fr ≤ r) (h2 : r < to) : fX0_sumBelow (nI fr) (nI to) (nI r) w = some (nI (vl oc fr to r)) := by
  rw [fX0_sumBelow, i65b, at_in (by omega) (by decide), Option.bind_some, nI_1, i65b, at_in (by omega) (by decide), Option.bind_some, hT fr r h1 (by omega) (by omega), hT (r + 1) to (by omega) hto (by omega), nI_add]; rfl
theorem lt_71 (hoc : ∀ i, oc i ≤ 100) (hnn : nn ≤ 64) (hto : to ≤ nn) (hT : ∀ i j, i ≤ j → j ≤ nn → j - i < to - fr → w.2 3 (65 * i + j) = nI (cs oc i j)) {a la : Nat} (ha : fr ≤ a) (hla : la < to) : ∀ (m top n K : Nat), m + top = la + 1 → m < n → Lm oc fr to a top K → ∃ K', fX0_lowestTop_L71 n (nI fr) (nI to) (nI la) (nI K) (nI (vl oc fr to K)) (nI top) w = some (nI K') ∧ Lm oc fr to a (la + 1) K' := by
  intro m
  induction m with
  | zero =>
    intro top n K h1 h2 hL
    obtain ⟨n, rfl⟩ := Nat.exists_eq_succ_of_ne_zero (by omega : n ≠ 0)
    have e : top = la + 1 := by omega
    subst e
    exact ⟨K, by rw [fX0_lowestTop_L71, if_pos (nI_lt (by omega) (by omega))], hL⟩
  | succ m ih =>
    intro top n K h1 h2 hL
    obtain ⟨n, rfl⟩ := Nat.exists_eq_succ_of_ne_zero (by omega : n ≠ 0)
    have l1 := hL.1
    have l2 := hL.2.1
    have v1 := vl_sm (oc := oc) hoc hnn (i := fr) (j := to) (r := top) (by omega) (by omega) hto
    have v2 := vl_sm (oc := oc) hoc hnn (i := fr) (j := to) (r := K) (by omega) (by omega) hto
    have hS := hL.step
    have st : fX0_lowestTop_L71 (n + 1) (nI fr) (nI to) (nI la) (nI K) (nI (vl oc fr to K)) (nI top) w = (if nI (vl oc fr to K) ≤ nI (vl oc fr to top) then fX0_lowestTop_J109 (fX0_lowestTop_L71 n) (nI fr) (nI to) (nI la) (nI K) (nI (vl oc fr to K)) (nI top) w else fX0_lowestTop_J109 (fX0_lowestTop_L71 n) (nI fr) (nI to) (nI la) (nI top) (nI (vl oc fr to top)) (nI top) w) := by
      rw [fX0_lowestTop_L71, if_neg (nI_nlt (by omega) (by omega)), if_neg (nI_ge (by omega) (by omega)), sb_ok hnn hto hT (by omega) (by omega), Option.bind_some]
    by_cases q : vl oc fr to top < vl oc fr to K
    · rw [if_pos q] at hS
      rw [if_neg (nI_ge (by omega) (by omega)), fX0_lowestTop_J109, px_let, nI_1] at st
      obtain ⟨K', b1, b2⟩ := ih (top + 1) n top (by omega) (by omega) hS
      exact ⟨K', by rw [st, b1], b2⟩
    · rw [if_neg q] at hS
      rw [if_pos (nI_le (by omega) (by omega)), fX0_lowestTop_J109, px_let, nI_1] at st
      obtain ⟨K', b1, b2⟩ := ih (top + 1) n K (by omega) (by omega) hS
      exact ⟨K', by rw [st, b1], b2⟩
theorem lt_49 (hoc : ∀ i, oc i ≤ 100) (hnn : nn ≤ 64) (hto : to ≤ nn) (hT : ∀ i j, i ≤ j → j ≤ nn → j - i < to - fr → w.2 3 (65 * i + j) = nI (cs oc i j)) {a la : Nat} (ha : fr ≤ a) (hal : a ≤ la) (hla : la < to) : ∃ K', fX0_lowestTop_J49 (nI fr) (nI to) (nI a) (nI la) w = some (nI K') ∧ Lm oc fr to a (la + 1) K' := by
  obtain ⟨K', b1, b2⟩ := lt_71 (w := w) hoc hnn hto hT ha hla (la - a) (a + 1) FU a (by omega) (by show la - a < 5000; omega) (Lm.one fr to a)
  exact ⟨K', by rw [fX0_lowestTop_J49, sb_ok hnn hto hT ha (by omega), Option.bind_some, px_let, nI_1, b1], b2⟩
theorem lt_ok (hoc : ∀ i, oc i ≤ 100) (hnn : nn ≤ 64) (hto : to ≤ nn) (hft : fr < to) (hT : ∀ i j, i ≤ j → j ≤ nn → j - i < to - fr → w.2 3 (65 * i + j) = nI (cs oc i j))
    (hK : fr + 1 < to → ∃ K1 K2, w.2 4 fr = nI K1 ∧ Kr oc fr (to - 1) K1 ∧ w.2 4 (fr + 1) = nI K2 ∧ Kr oc (fr + 1) to K2) : ∃ K, fX0_lowestTop (nI fr) (nI to) w = some (nI K) ∧ Kr oc fr to K := by
  have sub : nI to - nI fr = nI (to - fr) := pk_sub (by omega)
  rw [fX0_lowestTop, sub]
  by_cases q : to = fr + 1
  · obtain ⟨K, b1, b2⟩ := lt_49 (w := w) (a := fr) (la := fr) hoc hnn hto hT (Nat.le_refl _) (Nat.le_refl _) hft
    refine ⟨K, ?_, by rw [← q] at b2; exact b2⟩
    rw [if_pos (by rw [show to - fr = 1 by omega]; decide), fX0_lowestTop_J12, if_neg (by decide), fX0_lowestTop_J29, if_neg (by decide), b1]
  · obtain ⟨K1, K2, k1, k2, k3, k4⟩ := hK (by omega)
    obtain ⟨K, hKr⟩ := Kr.ex (oc := oc) hft
    have o1 : K1 ≤ K := by
      have e : to - 1 + 1 = to := by omega
      exact Kr.up1 k2 (by rw [e]; exact hKr)
    have o2 : K ≤ K2 := Kr.up2 k4 hKr
    have l2 := k4.2.1
    obtain ⟨K', b1, b2⟩ := lt_49 (w := w) (a := K1) (la := K2) hoc hnn hto hT k2.1 (by omega) l2
    have e := Kr.of b2 hKr k2.1 o1 (by omega) (by omega)
    subst e
    refine ⟨K', ?_, hKr⟩
    rw [if_neg (fun e => by have := (nI_eq (a := to - fr) (b := 1) (by omega) (by omega)).mp e; omega), fX0_lowestTop_J12, if_pos rfl, at_in (by omega) (by decide), Option.bind_some, k1, fX0_lowestTop_J29, if_pos rfl, nI_1, at_in (by omega) (by decide), Option.bind_some, k3, b1]
theorem se_ok (hoc : ∀ i, oc i ≤ 100) (hnn : nn ≤ 64) (hto : to ≤ nn) (hft : fr < to) (h2 : ∀ i, i ≤ nn → w.2 2 i = nI (sme oc i)) (hT : ∀ i j, i ≤ j → j ≤ nn → j - i < to - fr → w.2 3 (65 * i + j) = nI (cs oc i j))
    (hK : fr + 1 < to → ∃ K1 K2, w.2 4 fr = nI K1 ∧ Kr oc fr (to - 1) K1 ∧ w.2 4 (fr + 1) = nI K2 ∧ Kr oc (fr + 1) to K2) :
    ∃ (w' : Ob) (K : Nat), fX0_settle (nI fr) (nI to) w = some w' ∧ Kr oc fr to K ∧ w'.2 3 = upd (w.2 3) (65 * fr + to) (nI (cs oc fr to)) ∧ w'.2 4 = upd (w.2 4) fr (nI K) ∧ w'.1 = w.1 ∧ (∀ d, d ∉ [3, 4] → w'.2 d = w.2 d) := by
  obtain ⟨K, b1, b2⟩ := lt_ok (w := w) hoc hnn hto hft hT hK
  have mo := sme_mono oc (i := fr) (j := to) (by omega)
  refine ⟨ob_f (ob_f w 3 (upd (w.2 3) (65 * fr + to) (nI (cs oc fr to)))) 4 (upd (w.2 4) fr (nI K)), K, ?_, b2, ?_, ?_, rfl, fun d hd => ?_⟩
  · rw [fX0_settle, b1, Option.bind_some, at_in (by omega) (by decide), Option.bind_some, at_in (by omega) (by decide), Option.bind_some, px_let, h2 to hto, h2 fr (by omega), pk_sub mo, sb_ok hnn hto hT b2.1 b2.2.1, Option.bind_some, i65b, put_in (by omega) (by decide), Option.bind_some, px_let, nI_add, put_in (by omega) (by decide), Option.bind_some, px_let, show vl oc fr to K + (sme oc to - sme oc fr) = cs oc fr to by rw [Kr.val b2]; omega]
    rfl
  · rfl
  · rfl
  · show va_up (va_up w.2 3 _) 4 _ d = _
    rw [vu_ne (fun e => hd (by rw [e]; decide)), vu_ne (fun e => hd (by rw [e]; decide))]
end B2
