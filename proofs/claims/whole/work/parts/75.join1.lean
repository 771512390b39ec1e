section J1
variable {t s : Nat} {x y y2 T z : Ob} {G G2 : Gh} {tn tn2 : Int32}
theorem WF.congr {L R U L' R' U' : Nat → Option Nat} {rt : Option Nat} {I : Nat → Bool} {lo hi : Nat → Nat} (h : WF L R U rt I lo hi) (h1 : ∀ k, I k = true → L' k = L k) (h2 : ∀ k, I k = true → R' k = R k) (h3 : ∀ k, I k = true → U' k = U k) : WF L' R' U' rt I lo hi := by
  obtain ⟨a1, a2, a3, a4, a5, a6, a7, a8, a9⟩ := h
  refine ⟨a1, ?_, ?_, ?_, ?_, ?_, ?_, ?_, a9⟩
  · intro k c hk hc; rw [h1 k hk] at hc; obtain ⟨b1, b2, b3⟩ := a2 k c hk hc; exact ⟨b1, by rw [h3 c b1]; exact b2, b3⟩
  · intro k c hk hc; rw [h2 k hk] at hc; obtain ⟨b1, b2, b3⟩ := a3 k c hk hc; exact ⟨b1, by rw [h3 c b1]; exact b2, b3⟩
  · intro k j hk hn; rw [h1 k hk] at hn; exact a4 k j hk hn
  · intro k j hk hn; rw [h2 k hk] at hn; exact a5 k j hk hn
  · intro k hk hn; rw [h3 k hk] at hn; exact a6 k hk hn
  · intro k u hk hu; rw [h3 k hk] at hu; obtain ⟨b1, b2⟩ := a7 k u hk hu; exact ⟨b1, by rw [h1 u b1, h2 u b1]; exact b2⟩
  · intro r hr; obtain ⟨b1, b2, b3⟩ := a8 r hr; exact ⟨b1, by rw [h3 r b1]; exact b2, b3⟩
/-- the greatest and the smallest, both ways -/
theorem sim_greatL (hw : GW G) (hr : RepS y (gL G) (gR G) (gU G) (gs G) (gr G) tn) (hm : RepM x t (gL G) (gR G) (gU G) (gr G) (gI G)) (ht : t < 8) {B : Nat} : ∀ (m a n n2 st : Nat), gI G a = true → ghi G a = B → wid G a ≤ m → m < n → m < n2 → st + m ≤ 64 → ∃ l, fX3_greatestUnder_L4 n (nI a) (nI st) y = some (nI l) ∧ fX6_greatest_L7 n2 (nI t) (nI a) x = some (nI l) ∧ gI G l = true ∧ ghi G l = B ∧ gR G l = none := by
  intro m
  induction m with
  | zero => intro a n n2 st ha h1 h2; have := hw.w1 ha; omega
  | succ m ih =>
    intro a n n2 st ha h1 h2 h3 h3b h4
    obtain ⟨n, rfl⟩ := Nat.exists_eq_succ_of_ne_zero (by omega : n ≠ 0)
    obtain ⟨n2, rfl⟩ := Nat.exists_eq_succ_of_ne_zero (by omega : n2 ≠ 0)
    have ba := hw.1 a ha
    have e1 : fX3_rightOf (nI a) y = some (enc (gR G a)) := by
      have := rs_right hr (Bd_s ba.1); rw [enc_s, Option.bind_some] at this; exact this
    have e2 : x.2 6 (64 * t + a) = enc (gR G a) := hm.2.2.1 a ha
    cases hL : gR G a with
    | none =>
      refine ⟨a, ?_, ?_, ha, h1, hL⟩
      · rw [fX3_greatestUnder_L4, if_neg (st64 (by omega)), e1, Option.bind_some, hL, enc_n, if_pos rfl]
      · rw [fX6_greatest_L7, if_neg (nI_pos (by omega)), ix6 ht ba.1, e2, hL, enc_n, if_pos m1_lt]
    | some c =>
      obtain ⟨c1, c2, c3, c4⟩ := hw.2.2.1 a c ha hL
      have bc := hw.1 c c1
      obtain ⟨l, f1, f2, f3⟩ := ih c n n2 (st + 1) c1 (by omega) (by unfold wid at *; omega) (by omega) (by omega) (by omega)
      refine ⟨l, ?_, ?_, f3⟩
      · rw [fX3_greatestUnder_L4, if_neg (st64 (by omega)), e1, Option.bind_some, hL, enc_s, if_neg (nI_ne_m1 (by omega)), Option.bind_some, px_let, nI_1, f1]
      · rw [fX6_greatest_L7, if_neg (nI_pos (by omega)), ix6 ht ba.1, e2, hL, enc_s, if_neg (nI_pos (by omega)), ix6 ht ba.1, px_let, e2, hL, enc_s, f2]
theorem sim_leastL (hw : GW G) (hr : RepS y (gL G) (gR G) (gU G) (gs G) (gr G) tn) (hm : RepM x t (gL G) (gR G) (gU G) (gr G) (gI G)) (ht : t < 8) {A : Nat} : ∀ (m a n n2 st : Nat), gI G a = true → glo G a = A → wid G a ≤ m → m < n → m < n2 → st + m ≤ 64 → ∃ l, fX3_leastUnder_L4 n (nI a) (nI st) y = some (nI l) ∧ fX6_smallest_L7 n2 (nI t) (nI a) x = some (nI l) ∧ gI G l = true ∧ glo G l = A ∧ gL G l = none := by
  intro m
  induction m with
  | zero => intro a n n2 st ha h1 h2; have := hw.w1 ha; omega
  | succ m ih =>
    intro a n n2 st ha h1 h2 h3 h3b h4
    obtain ⟨n, rfl⟩ := Nat.exists_eq_succ_of_ne_zero (by omega : n ≠ 0)
    obtain ⟨n2, rfl⟩ := Nat.exists_eq_succ_of_ne_zero (by omega : n2 ≠ 0)
    have ba := hw.1 a ha
    have e1 : fX3_leftOf (nI a) y = some (enc (gL G a)) := by
      have := rs_left hr (Bd_s ba.1); rw [enc_s, Option.bind_some] at this; exact this
    have e2 : x.2 5 (64 * t + a) = enc (gL G a) := hm.2.1 a ha
    cases hL : gL G a with
    | none =>
      refine ⟨a, ?_, ?_, ha, h1, hL⟩
      · rw [fX3_leastUnder_L4, if_neg (st64 (by omega)), e1, Option.bind_some, hL, enc_n, if_pos rfl]
      · rw [fX6_smallest_L7, if_neg (nI_pos (by omega)), ix6 ht ba.1, e2, hL, enc_n, if_pos m1_lt]
    | some c =>
      obtain ⟨c1, c2, c3, c4⟩ := hw.2.1 a c ha hL
      have bc := hw.1 c c1
      obtain ⟨l, f1, f2, f3⟩ := ih c n n2 (st + 1) c1 (by omega) (by unfold wid at *; omega) (by omega) (by omega) (by omega)
      refine ⟨l, ?_, ?_, f3⟩
      · rw [fX3_leastUnder_L4, if_neg (st64 (by omega)), e1, Option.bind_some, hL, enc_s, if_neg (nI_ne_m1 (by omega)), Option.bind_some, px_let, nI_1, f1]
      · rw [fX6_smallest_L7, if_neg (nI_pos (by omega)), ix6 ht ba.1, e2, hL, enc_s, if_neg (nI_pos (by omega)), ix6 ht ba.1, px_let, e2, hL, enc_s, f2]
/-- greatest(t) of a tree with root r -/
theorem sim_great (hw : GW G) (hr : RepS y (gL G) (gR G) (gU G) (gs G) (gr G) tn) (hm : RepM x t (gL G) (gR G) (gU G) (gr G) (gI G)) (ht : t < 8) {r : Nat} (h : gr G = some r) : ∃ g, fX3_greatestUnder (nI r) y = some (nI g) ∧ fX6_greatest (nI t) x = some (nI g) ∧ gI G g = true ∧ gR G g = none ∧ (∀ j, gI G j = true → j ≤ g) := by
  have b := hw.2.2.2.2.2.2.2.1 r h
  have w := hw.w1 b.1
  obtain ⟨g, f1, f2, f3, f4, f5⟩ := sim_greatL hw hr hm ht (B := 64) 64 r FU FU 0 b.1 b.2.2.2 w.2 (by decide) (by decide) (by omega)
  refine ⟨g, f1, ?_, f3, f5, fun j hj => ?_⟩
  · rw [fX6_greatest, ix_nI ht (by decide), px_let, hm.2.2.2.2, h, enc_s, f2]
  · have := hw.2.2.2.2.1 g j f3 f5 hj; have := hw.1 j hj; omega
theorem sim_least (hw : GW G) (hr : RepS y (gL G) (gR G) (gU G) (gs G) (gr G) tn) (hm : RepM x t (gL G) (gR G) (gU G) (gr G) (gI G)) (ht : t < 8) {r : Nat} (h : gr G = some r) : ∃ g, fX3_leastUnder (nI r) y = some (nI g) ∧ fX6_smallest (nI t) x = some (nI g) ∧ gI G g = true ∧ (∀ j, gI G j = true → g ≤ j) := by
  have b := hw.2.2.2.2.2.2.2.1 r h
  have w := hw.w1 b.1
  obtain ⟨g, f1, f2, f3, f4, f5⟩ := sim_leastL hw hr hm ht (A := 0) 64 r FU FU 0 b.1 b.2.2.1 w.2 (by decide) (by decide) (by omega)
  refine ⟨g, f1, ?_, f3, fun j hj => ?_⟩
  · rw [fX6_smallest, ix_nI ht (by decide), px_let, hm.2.2.2.2, h, enc_s, f2]
  · have := hw.2.2.2.1 g j f3 f5 hj; have := hw.1 j hj; omega
/-- the reference moves the keys of s to t -/
theorem jn_move {L R U L2 R2 U2 : Nat → Option Nat} {rt rt2 : Option Nat} {I I2 : Nat → Bool} {v3 : Int32} (hts : t ≠ s) (ht : t < 8) (hs : s < 8) (h64 : ∀ k, I2 k = true → k < 64) : ∀ (m j n : Nat) (x : Ob), m + j = 64 → m < n →
    RepM x t (ifb (fun k => I2 k && decide (k < j)) L2 L) (ifb (fun k => I2 k && decide (k < j)) R2 R) (ifb (fun k => I2 k && decide (k < j)) U2 U) rt (fun k => I k || (I2 k && decide (k < j))) →
    (∀ k, k < 64 → x.2 7 (64 * s + k) = if I2 k = true ∧ j ≤ k then 1 else 0) → (∀ k, I2 k = true → x.2 5 (64 * s + k) = enc (L2 k) ∧ x.2 6 (64 * s + k) = enc (R2 k) ∧ x.2 4 (64 * s + k) = enc (U2 k)) →
    ∃ x', fX6_join_L114 n (nI t) (nI s) v3 (nI j) x = fX6_join_J224 (nI t) (nI s) v3 x' ∧ RepM x' t (ifb I2 L2 L) (ifb I2 R2 R) (ifb I2 U2 U) rt (jOr I I2) ∧ (∀ k, k < 64 → x'.2 7 (64 * s + k) = 0) ∧ Fr2 [] [4, 5, 6, 7] t s x x' := by
  intro m
  induction m with
  | zero =>
    intro j n x h1 h2 hr h7 h4
    obtain ⟨n, rfl⟩ := Nat.exists_eq_succ_of_ne_zero (by omega : n ≠ 0)
    have hj : j = 64 := by omega
    subst hj
    have e : (fun k => I2 k && decide (k < 64)) = I2 := by
      funext k
      cases q : I2 k with
      | false => rfl
      | true => simp [h64 k q]
    rw [e] at hr
    refine ⟨x, by rw [fX6_join_L114, if_pos (by decide)], ?_, fun k hk => by rw [h7 k hk, if_neg (by omega)], Fr2.rf _ _ _ _ _⟩
    have e2 : (fun k => I k || (I2 k && decide (k < 64))) = jOr I I2 := by
      funext k
      unfold jOr
      cases q : I2 k with
      | false => rfl
      | true => simp [h64 k q]
    rw [e2] at hr; exact hr
  | succ m ih =>
    intro j n x h1 h2 hr h7 h4
    obtain ⟨n, rfl⟩ := Nat.exists_eq_succ_of_ne_zero (by omega : n ≠ 0)
    have hj : j < 64 := by omega
    have e7 := h7 j hj
    cases q : I2 j with
    | false =>
      rw [q, if_neg (by simp)] at e7
      have e : (fun k => I2 k && decide (k < j + 1)) = (fun k => I2 k && decide (k < j)) := by
        funext k
        by_cases w : k = j
        · rw [w, q]; rfl
        · rw [show decide (k < j + 1) = decide (k < j) by simp; omega]
      have e2 : (fun k => I k || (I2 k && decide (k < j + 1))) = (fun k => I k || (I2 k && decide (k < j))) := by
        funext k; have := congrFun e k; show (I k || (I2 k && decide (k < j + 1))) = _; rw [show (I2 k && decide (k < j + 1)) = (I2 k && decide (k < j)) from this]
      obtain ⟨x', f1, f2⟩ := ih (j + 1) n x (by omega) (by omega) (by rw [e, e2]; exact hr) (fun k hk => by
        rw [h7 k hk]
        by_cases w : k = j
        · rw [w, q, if_neg (by simp), if_neg (by simp)]
        · by_cases v : I2 k = true ∧ j ≤ k
          · rw [if_pos v, if_pos ⟨v.1, by omega⟩]
          · rw [if_neg v, if_neg (fun u => v ⟨u.1, by omega⟩)]) h4
      refine ⟨x', ?_, f2⟩
      rw [fX6_join_L114, if_neg (st64 hj), px_let, ix6 hs hj, e7, if_pos rfl, fX6_join_J218, px_let, nI_1, f1]
    | true =>
      rw [q, if_pos ⟨rfl, Nat.le_refl _⟩] at e7
      obtain ⟨v5, v6, v4⟩ := h4 j q
      have step : fX6_join_L114 (n + 1) (nI t) (nI s) v3 (nI j) x = fX6_join_L114 n (nI t) (nI s) v3 (nI (j + 1)) (ob_a (ob_a (ob_a (ob_a (ob_a x 7 (64 * t + j) 1) 4 (64 * t + j) (enc (U2 j))) 5 (64 * t + j) (enc (L2 j))) 6 (64 * t + j) (enc (R2 j))) 7 (64 * s + j) 0) := by
        have r4 : (ob_a x 7 (64 * t + j) 1).2 4 (64 * s + j) = enc (U2 j) := by rw [ga, if_neg (by omega)]; exact v4
        have r5 : (ob_a (ob_a x 7 (64 * t + j) 1) 4 (64 * t + j) (enc (U2 j))).2 5 (64 * s + j) = enc (L2 j) := by rw [ga, if_neg (by omega), ga, if_neg (by omega)]; exact v5
        have r6 : (ob_a (ob_a (ob_a x 7 (64 * t + j) 1) 4 (64 * t + j) (enc (U2 j))) 5 (64 * t + j) (enc (L2 j))).2 6 (64 * s + j) = enc (R2 j) := by rw [ga, if_neg (by omega), ga, if_neg (by omega), ga, if_neg (by omega)]; exact v6
        rw [fX6_join_L114, if_neg (st64 hj), px_let, ix6 hs hj, e7, if_neg (by decide), ix6 ht hj, px_let, ix6 hs hj, ix6 ht hj, px_let, nar1, r4, ix6 hs hj, ix6 ht hj, px_let, r5, ix6 hs hj, ix6 ht hj, px_let, r6, ix6 hs hj, px_let, nar0, fX6_join_J218, px_let, nI_1]
      have g : ∀ d i, (ob_a (ob_a (ob_a (ob_a (ob_a x 7 (64 * t + j) 1) 4 (64 * t + j) (enc (U2 j))) 5 (64 * t + j) (enc (L2 j))) 6 (64 * t + j) (enc (R2 j))) 7 (64 * s + j) 0).2 d i = if d = 7 ∧ i = 64 * s + j then 0 else if d = 6 ∧ i = 64 * t + j then enc (R2 j) else if d = 5 ∧ i = 64 * t + j then enc (L2 j) else if d = 4 ∧ i = 64 * t + j then enc (U2 j) else if d = 7 ∧ i = 64 * t + j then 1 else x.2 d i := by
        intro d i; simp only [ga]
      have fr : Fr2 [] [4, 5, 6, 7] t s x (ob_a (ob_a (ob_a (ob_a (ob_a x 7 (64 * t + j) 1) 4 (64 * t + j) (enc (U2 j))) 5 (64 * t + j) (enc (L2 j))) 6 (64 * t + j) (enc (R2 j))) 7 (64 * s + j) 0) := by
        have a : ∀ c, 4 ≤ c ∧ c ≤ 7 → (14 ≤ c ∨ inT c t (64 * t + j) ∨ inT c s (64 * t + j)) := fun c hc => Or.inr (Or.inl (inT4 hc hj))
        exact ((((Fr2.a _ _ _ (by decide) (a 7 (by decide))).tr (Fr2.a _ _ _ (by decide) (a 4 (by decide)))).tr (Fr2.a _ _ _ (by decide) (a 5 (by decide)))).tr (Fr2.a _ _ _ (by decide) (a 6 (by decide)))).tr (Fr2.a _ _ _ (by decide) (Or.inr (Or.inr (inT4 (by decide) hj))))
      generalize ob_a (ob_a (ob_a (ob_a (ob_a x 7 (64 * t + j) 1) 4 (64 * t + j) (enc (U2 j))) 5 (64 * t + j) (enc (L2 j))) 6 (64 * t + j) (enc (R2 j))) 7 (64 * s + j) 0 = x2 at *
      have iff1 : ∀ k, (I2 k && decide (k < j + 1)) = true ↔ k = j ∨ (I2 k && decide (k < j)) = true := by
        intro k
        simp only [Bool.and_eq_true, decide_eq_true_eq]
        constructor
        · rintro ⟨w1, w2⟩
          by_cases w : k = j
          · exact Or.inl w
          · exact Or.inr ⟨w1, by omega⟩
        · rintro (w | w)
          · rw [w]; exact ⟨q, by omega⟩
          · exact ⟨w.1, by omega⟩
      have ifs : ∀ (f g : Nat → Option Nat) (k : Nat), ifb (fun k => I2 k && decide (k < j + 1)) f g k = if k = j then f j else ifb (fun k => I2 k && decide (k < j)) f g k := by
        intro f g k
        unfold ifb
        by_cases w : k = j
        · rw [if_pos ((iff1 k).mpr (Or.inl w)), if_pos w, w]
        · rw [if_neg w]
          by_cases v : (I2 k && decide (k < j)) = true
          · rw [if_pos v, if_pos ((iff1 k).mpr (Or.inr v))]
          · rw [if_neg v, if_neg (fun u => by rcases (iff1 k).mp u with z | z; exact w z; exact v z)]
      have inI : ∀ k, (I k || (I2 k && decide (k < j + 1))) = true → k ≠ j → (I k || (I2 k && decide (k < j))) = true := by
        intro k hk hne
        rcases Bool.or_eq_true_iff.mp hk with w | w
        · rw [w]; rfl
        · rcases (iff1 k).mp w with z | z
          · exact absurd z hne
          · rw [z, Bool.or_true]
      have k64 : ∀ k, (I k || (I2 k && decide (k < j + 1))) = true → True := fun _ _ => trivial
      obtain ⟨x', f1, f2, f3, f4⟩ := ih (j + 1) n x2 (by omega) (by omega) (by
        obtain ⟨b1, b2, b3, b4, b5⟩ := hr
        refine ⟨?_, ?_, ?_, ?_, by rw [g, if_neg (by omega), if_neg (by omega), if_neg (by omega), if_neg (by omega), if_neg (by omega)]; exact b5⟩
        · intro k hk
          show x2.2 7 (64 * t + k) = _
          rw [g, if_neg (by omega), if_neg (by omega), if_neg (by omega), if_neg (by omega)]
          by_cases w : k = j
          · rw [if_pos ⟨rfl, by rw [w]⟩, if_pos (by show (I k || (I2 k && decide (k < j + 1))) = true; rw [(iff1 k).mpr (Or.inl w), Bool.or_true])]
          · rw [if_neg (by omega)]
            have z := b1 k hk
            have e : (I k || (I2 k && decide (k < j + 1))) = (I k || (I2 k && decide (k < j))) := by
              rw [show decide (k < j + 1) = decide (k < j) by simp; omega]
            show x.2 7 (64 * t + k) = if (I k || (I2 k && decide (k < j + 1))) = true then 1 else 0
            rw [e]; exact z
        · intro k hk
          show x2.2 5 (64 * t + k) = _
          rw [g, if_neg (by omega), if_neg (by omega), ifs]
          by_cases w : k = j
          · rw [if_pos ⟨rfl, by rw [w]⟩, if_pos w]
          · rw [if_neg (by omega), if_neg (by omega), if_neg (by omega), if_neg w]; exact b2 k (inI k hk w)
        · intro k hk
          show x2.2 6 (64 * t + k) = _
          rw [g, if_neg (by omega), ifs]
          by_cases w : k = j
          · rw [if_pos ⟨rfl, by rw [w]⟩, if_pos w]
          · rw [if_neg (by omega), if_neg (by omega), if_neg (by omega), if_neg (by omega), if_neg w]; exact b3 k (inI k hk w)
        · intro k hk
          show x2.2 4 (64 * t + k) = _
          rw [g, if_neg (by omega), if_neg (by omega), if_neg (by omega), ifs]
          by_cases w : k = j
          · rw [if_pos ⟨rfl, by rw [w]⟩, if_pos w]
          · rw [if_neg (by omega), if_neg (by omega), if_neg w]; exact b4 k (inI k hk w)) (fun k hk => by
        rw [g]
        by_cases w : k = j
        · rw [if_pos ⟨rfl, by rw [w]⟩, if_neg (by omega)]
        · rw [if_neg (by omega), if_neg (by omega), if_neg (by omega), if_neg (by omega), if_neg (by omega), h7 k hk]
          by_cases v : I2 k = true ∧ j ≤ k
          · rw [if_pos v, if_pos ⟨v.1, by omega⟩]
          · rw [if_neg v, if_neg (fun u => v ⟨u.1, by omega⟩)]) (fun k hk => by
        have := h64 k hk
        have z := h4 k hk
        refine ⟨?_, ?_, ?_⟩
        · rw [g, if_neg (by omega), if_neg (by omega), if_neg (by omega), if_neg (by omega), if_neg (by omega)]; exact z.1
        · rw [g, if_neg (by omega), if_neg (by omega), if_neg (by omega), if_neg (by omega), if_neg (by omega)]; exact z.2.1
        · rw [g, if_neg (by omega), if_neg (by omega), if_neg (by omega), if_neg (by omega), if_neg (by omega)]; exact z.2.2)
      exact ⟨x', step.trans f1, f2, f3, fr.tr f4⟩
end J1
