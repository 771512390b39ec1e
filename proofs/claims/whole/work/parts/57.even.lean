theorem ou_ne {f : Nat → Option Nat} {o v : Option Nat} {j : Nat} (h : o ≠ some j) : ou f o v j = f j := by
  cases o with
  | none => rfl
  | some c => show va_up f c v j = f j; rw [vup_at, if_neg (fun e => h (by rw [e]))]
theorem ou_eq {f : Nat → Option Nat} {v : Option Nat} {j : Nat} : ou f (some j) v j = v := by
  show va_up f j v j = v; rw [vup_at, if_pos rfl]
theorem vu_ne {α : Type} {f : Nat → α} {k j : Nat} {v : α} (h : j ≠ k) : va_up f k v j = f j := by rw [vup_at, if_neg h]
theorem vu_eq {α : Type} {f : Nat → α} {k : Nat} {v : α} : va_up f k v k = v := by rw [vup_at, if_pos rfl]
theorem em_le {i : Nat} (h : i < 2 ^ 31) : ¬ nI i ≤ nI i - 1 := by
  cases i with
  | zero => decide
  | succ i => rw [nI_pred]; exact nI_ge (by omega) h
theorem em_lt {i : Nat} (h : i < 2 ^ 31) : nI i - 1 < nI i := by
  cases i with
  | zero => decide
  | succ i => rw [nI_pred]; exact nI_lt (by omega) h
theorem cnt_none {I : Nat → Bool} {A n : Nat} (h : cnt I A n = 0) {j : Nat} (h1 : A ≤ j) (h2 : j < A + n) : I j = false := by
  cases q : I j with
  | false => rfl
  | true =>
    have a := cnt_in I A h1 q
    have b := cnt_mono I A (show j + 1 - A ≤ n by omega)
    omega
section EV
variable {t : Nat} {x y : Ob} {L R U : Nat → Option Nat} {rt : Option Nat} {I : Nat → Bool} {tn : Int32}
theorem rmh_L (hr : RepM x t L R U rt I) (ht : t < 8) {a : Option Nat} {b : Nat} (ha : Bd a) (hb : b < 64) : ∃ x', fX6_hangsLeft (nI t) (enc a) (nI b) x = some x' ∧ RepM x' t (va_up L b a) R (ou U a (some b)) rt I ∧ Fr [] [4, 5, 6] t x x' := by
  obtain ⟨x', f1, a1, a2, a3, a4, a5⟩ := rm_hangsL (x := x) ht ha hb
  refine ⟨x', f1, ⟨?_, ?_, ?_, ?_, ?_⟩, a5.mono (fun _ h => h) (by decide)⟩
  · intro k hk; rw [a4]; exact hr.1 k hk
  · intro k hk
    rw [a1, upd_at, vup_at]
    by_cases e : k = b
    · rw [if_pos e, if_pos e]
    · rw [if_neg e, if_neg e]; exact hr.2.1 k hk
  · intro k hk; rw [a3]; exact hr.2.2.1 k hk
  · intro k hk
    rw [a2]
    cases a with
    | none => exact hr.2.2.2.1 k hk
    | some c =>
      show upd (sl x 4 t) c (nI b) k = enc (va_up U c (some b) k)
      rw [upd_at, vup_at]
      by_cases e : k = c
      · rw [if_pos e, if_pos e]; rfl
      · rw [if_neg e, if_neg e]; exact hr.2.2.2.1 k hk
  · rw [a5.2.1 3 (by decide)]; exact hr.2.2.2.2
theorem rmh_R (hr : RepM x t L R U rt I) (ht : t < 8) {a : Option Nat} {b : Nat} (ha : Bd a) (hb : b < 64) : ∃ x', fX6_hangsRight (nI t) (enc a) (nI b) x = some x' ∧ RepM x' t L (va_up R b a) (ou U a (some b)) rt I ∧ Fr [] [4, 5, 6] t x x' := by
  obtain ⟨x', f1, a1, a2, a3, a4, a5⟩ := rm_hangsR (x := x) ht ha hb
  refine ⟨x', f1, ⟨?_, ?_, ?_, ?_, ?_⟩, a5.mono (fun _ h => h) (by decide)⟩
  · intro k hk; rw [a4]; exact hr.1 k hk
  · intro k hk; rw [a3]; exact hr.2.1 k hk
  · intro k hk
    rw [a1, upd_at, vup_at]
    by_cases e : k = b
    · rw [if_pos e, if_pos e]
    · rw [if_neg e, if_neg e]; exact hr.2.2.1 k hk
  · intro k hk
    rw [a2]
    cases a with
    | none => exact hr.2.2.2.1 k hk
    | some c =>
      show upd (sl x 4 t) c (nI b) k = enc (va_up U c (some b) k)
      rw [upd_at, vup_at]
      by_cases e : k = c
      · rw [if_pos e, if_pos e]; rfl
      · rw [if_neg e, if_neg e]; exact hr.2.2.2.1 k hk
  · rw [a5.2.1 3 (by decide)]; exact hr.2.2.2.2
theorem Bd_up {f : Nat → Option Nat} (h : ∀ k, Bd (f k)) {b : Nat} {a : Option Nat} (ha : Bd a) : ∀ k, Bd (va_up f b a k) := by
  intro k; rw [vup_at]
  by_cases e : k = b
  · rw [if_pos e]; exact ha
  · rw [if_neg e]; exact h k
/-- the keys of an interval -/
def iJ (I : Nat → Bool) (A B : Nat) : Nat → Bool := fun j => I j && decide (A ≤ j) && decide (j < B)
theorem iJ_iff (I : Nat → Bool) (A B j : Nat) : iJ I A B j = true ↔ I j = true ∧ A ≤ j ∧ j < B := by
  unfold iJ; simp [and_assoc]
set_option maxHeartbeats 4000000 in
theorem sim_even (ht : t < 8) {A0 B0 : Nat} (hB0 : B0 ≤ 64) : ∀ (h lev A B i e d1 d2 : Nat) (x y : Ob) (L R U : Nat → Option Nat) (sz : Nat → Nat), lev + h = 7 → A0 ≤ A → A ≤ B → B ≤ B0 → i = cnt I A0 (A - A0) → e = cnt I A0 (B - A0) → e < i + 2 ^ h → h < d1 → h < d2 →
    RepM x t L R U rt I → RepS y L R U sz rt tn → (∀ k, Bd (L k)) → (∀ k, Bd (R k)) →
    (∀ k, I k = true → A0 ≤ k → k < B0 → x.2 14 (cnt I A0 (k - A0)) = nI k) → (∀ k, I k = true → A0 ≤ k → k < B0 → y.2 4 (cnt I A0 (k - A0)) = nI k) →
    ∃ (o : Option Nat) (x' y' : Ob) (L' R' U' : Nat → Option Nat) (sz' lo hi : Nat → Nat), fX6_even d1 (nI t) (nI i) (nI e - 1) x = some (enc o, x') ∧ fX3_evenOf d2 (nI i) (nI e - 1) (nI lev) y = some (enc o, y') ∧ RepM x' t L' R' U' rt I ∧ RepS y' L' R' U' sz' rt tn ∧ (∀ k, Bd (L' k)) ∧ (∀ k, Bd (R' k)) ∧ Fr [] [4, 5, 6] t x x' ∧ y'.2 4 = y.2 4 ∧
      PW L' R' U' (iJ I A B) A B o lo hi ∧ (∀ j, iJ I A B j = false → L' j = L j ∧ R' j = R j ∧ U' j = U j ∧ sz' j = sz j) ∧
      (∀ j, iJ I A B j = true → sz' j = 1 + szo sz' (L' j) + szo sz' (R' j)) ∧ szo sz' o = cnt I A (B - A) := by
  intro h
  have hsplit : ∀ A B, A0 ≤ A → A ≤ B → cnt I A0 (B - A0) = cnt I A0 (A - A0) + cnt I A (B - A) := by
    intro A B h1 h2
    have := cnt_split I A0 (A - A0) (B - A)
    rw [show A - A0 + (B - A) = B - A0 by omega, show A0 + (A - A0) = A by omega] at this
    exact this
  have hle : ∀ A, A ≤ B0 → cnt I A0 (A - A0) ≤ 64 := fun A hA => by have := cnt_le I A0 (A - A0); omega
  have empty : ∀ (lev A B i e d1 d2 : Nat) (x y : Ob) (L R U : Nat → Option Nat) (sz : Nat → Nat), A0 ≤ A → A ≤ B → B ≤ B0 → i = cnt I A0 (A - A0) → e = cnt I A0 (B - A0) → e = i → 0 < d1 → 0 < d2 →
      RepM x t L R U rt I → RepS y L R U sz rt tn → (∀ k, Bd (L k)) → (∀ k, Bd (R k)) →
      ∃ (o : Option Nat) (x' y' : Ob) (L' R' U' : Nat → Option Nat) (sz' lo hi : Nat → Nat), fX6_even d1 (nI t) (nI i) (nI e - 1) x = some (enc o, x') ∧ fX3_evenOf d2 (nI i) (nI e - 1) (nI lev) y = some (enc o, y') ∧ RepM x' t L' R' U' rt I ∧ RepS y' L' R' U' sz' rt tn ∧ (∀ k, Bd (L' k)) ∧ (∀ k, Bd (R' k)) ∧ Fr [] [4, 5, 6] t x x' ∧ y'.2 4 = y.2 4 ∧
        PW L' R' U' (iJ I A B) A B o lo hi ∧ (∀ j, iJ I A B j = false → L' j = L j ∧ R' j = R j ∧ U' j = U j ∧ sz' j = sz j) ∧
        (∀ j, iJ I A B j = true → sz' j = 1 + szo sz' (L' j) + szo sz' (R' j)) ∧ szo sz' o = cnt I A (B - A) := by
    intro lev A B i e d1 d2 x y L R U sz h1 h2 h3 hi he hei g1 g2 hm hs bL bR
    obtain ⟨d1, rfl⟩ := Nat.exists_eq_succ_of_ne_zero (by omega : d1 ≠ 0)
    obtain ⟨d2, rfl⟩ := Nat.exists_eq_succ_of_ne_zero (by omega : d2 ≠ 0)
    have hi64 := hle A (by omega)
    have z := hsplit A B h1 h2
    have z0 : cnt I A (B - A) = 0 := by omega
    have nj : ∀ j, iJ I A B j = false := fun j => by
      cases q : iJ I A B j with
      | false => rfl
      | true =>
        obtain ⟨q1, q2, q3⟩ := (iJ_iff I A B j).mp q
        rw [cnt_none z0 q2 (by omega)] at q1; cases q1
    refine ⟨none, x, y, L, R, U, sz, fun _ => 0, fun _ => 0, ?_, ?_, hm, hs, bL, bR, Fr.rf _ _ _ _, rfl, ?_, fun j _ => ⟨rfl, rfl, rfl, rfl⟩, fun j hj => (by rw [nj j] at hj; cases hj), z0.symm⟩
    · rw [fX6_even, hei, if_neg (em_le (by omega))]; rfl
    · rw [fX3_evenOf, hei, if_pos (em_lt (by omega))]; rfl
    · refine ⟨?_, ?_, ?_, ?_, ?_, ?_, ?_, fun _ => nj⟩
      · intro k hk; rw [nj k] at hk; cases hk
      · intro k c hk; rw [nj k] at hk; cases hk
      · intro k c hk; rw [nj k] at hk; cases hk
      · intro k j hk; rw [nj k] at hk; cases hk
      · intro k j hk; rw [nj k] at hk; cases hk
      · intro k hk; rw [nj k] at hk; cases hk
      · intro r hr; cases hr
  induction h with
  | zero =>
    intro lev A B i e d1 d2 x y L R U sz hlev h1 h2 h3 hi he hlt g1 g2 hm hs bL bR hx hy
    have z := hsplit A B h1 h2
    exact empty lev A B i e d1 d2 x y L R U sz h1 h2 h3 hi he (by omega) g1 g2 hm hs bL bR
  | succ h ih =>
    intro lev A B i e d1 d2 x y L R U sz hlev h1 h2 h3 hi he hlt g1 g2 hm hs bL bR hx hy
    have z := hsplit A B h1 h2
    by_cases hei : e = i
    · exact empty lev A B i e d1 d2 x y L R U sz h1 h2 h3 hi he hei (by omega) (by omega) hm hs bL bR
    obtain ⟨d1, rfl⟩ := Nat.exists_eq_succ_of_ne_zero (by omega : d1 ≠ 0)
    obtain ⟨d2, rfl⟩ := Nat.exists_eq_succ_of_ne_zero (by omega : d2 ≠ 0)
    have hi64 := hle A (by omega)
    have he64 := hle B (by omega)
    rw [Nat.pow_succ] at hlt
    obtain ⟨m, hm2⟩ : ∃ m, m = (i + e - 1) / 2 := ⟨_, rfl⟩
    obtain ⟨k, k1, k2, hIk, k4⟩ := cnt_nth I A0 (B - A0) m (by omega)
    have kB : k < B := by omega
    have kA : A ≤ k := by
      rcases Nat.lt_or_ge k A with q | q
      · have a := cnt_in I A0 k1 hIk
        have b := cnt_mono I A0 (show k + 1 - A0 ≤ A - A0 by omega)
        omega
      · exact q
    have k64 : k < 64 := by omega
    have kin := cnt_in I A0 k1 hIk
    have mid : (nI i + (nI e - 1)) / 2 = nI m := by
      have : nI e - 1 = nI (e - 1) := by
        have := nI_pred (e - 1); rw [show e - 1 + 1 = e by omega] at this; exact this
      rw [this, nI_add, show (2 : Int32) = nI 2 from rfl, pk_div (by omega) (by decide) (by decide), hm2]
      congr 2; omega
    have c1 : nI i ≤ nI e - 1 := by
      have := nI_pred (e - 1); rw [show e - 1 + 1 = e by omega] at this; rw [this]; exact nI_le (by omega) (by omega)
    have c2 : ¬ nI e - 1 < nI i := by
      have := nI_pred (e - 1); rw [show e - 1 + 1 = e by omega] at this; rw [this]; exact nI_nlt (by omega) (by omega)
    have ex : x.2 14 m = nI k := by rw [← k4]; exact hx k hIk k1 (by omega)
    have ey : y.2 4 m = nI k := by rw [← k4]; exact hy k hIk k1 (by omega)
    obtain ⟨o1, x1, y1, L1, R1, U1, s1, lo1, hi1, a1, a2, a3, a4, a5, a6, a7, a8, a9, a10, a11, a12⟩ := ih (lev + 1) A k i m d1 d2 x y L R U sz (by omega) h1 kA (by omega) hi k4.symm (by omega) (by omega) (by omega) hm hs bL bR hx hy
    have bo1 : Bd o1 := fun c hc => by have := (a9.2.2.2.2.2.2.1 c hc).1; rw [iJ_iff] at this; omega
    have no1 : ∀ c, o1 = some c → A ≤ c ∧ c < k ∧ I c = true := fun c hc => by have := (a9.2.2.2.2.2.2.1 c hc).1; rw [iJ_iff] at this; exact ⟨this.2.1, this.2.2, this.1⟩
    obtain ⟨x2, b1, b2, b3⟩ := rmh_L a3 ht bo1 k64
    obtain ⟨y2, c3, c4, c5⟩ := rs_hangL a4 bo1 (Bd_s k64)
    have e1 : nI k = enc (some k) := rfl
    obtain ⟨o2, x3, y3, L3, R3, U3, s3, lo2, hi2, d3, d4, d5, d6, d7, d8, d9, d10, d11, d12, d13, d14⟩ := ih (lev + 1) (k + 1) B (m + 1) e d1 d2 x2 y2 (va_up L1 k o1) R1 (ou U1 o1 (some k)) s1 (by omega) (by omega) (by omega) h3 (by omega) he (by omega) (by omega) (by omega) b2 c4 (Bd_up a5 bo1) a6 (fun j q1 q2 q3 => by rw [b3.2.1 14 (by decide), a7.2.1 14 (by decide)]; exact hx j q1 q2 q3) (fun j q1 q2 q3 => by rw [c5, a8]; exact hy j q1 q2 q3)
    have bo2 : Bd o2 := fun c hc => by have := (d11.2.2.2.2.2.2.1 c hc).1; rw [iJ_iff] at this; omega
    have no2 : ∀ c, o2 = some c → k + 1 ≤ c ∧ c < B ∧ I c = true := fun c hc => by have := (d11.2.2.2.2.2.2.1 c hc).1; rw [iJ_iff] at this; exact ⟨this.2.1, this.2.2, this.1⟩
    obtain ⟨x4, f1, f2, f3⟩ := rmh_R d5 ht bo2 k64
    obtain ⟨y4, f4, f5, f6⟩ := rs_hangR d6 bo2 (Bd_s k64)
    have bR4 := Bd_up (b := k) d8 bo2
    obtain ⟨y5, f7, f8, f9⟩ := rs_resize f5 d7 bR4 k64
    -- what is where
    have hk3 := d12 k (by
      cases q : iJ I (k + 1) B k with
      | false => rfl
      | true => rw [iJ_iff] at q; omega)
    have hl3 : ∀ j, j < k → L3 j = L1 j ∧ R3 j = R1 j ∧ U3 j = ou U1 o1 (some k) j ∧ s3 j = s1 j := fun j hj => by
      have := d12 j (by
        cases q : iJ I (k + 1) B j with
        | false => rfl
        | true => rw [iJ_iff] at q; omega)
      rw [vu_ne (by omega)] at this; exact this
    have hLk : L3 k = o1 := by rw [hk3.1, vu_eq]
    have hg1 : ∀ j, k < j → L1 j = L j ∧ R1 j = R j ∧ U1 j = U j ∧ s1 j = sz j := fun j hj => a10 j (by
        cases q : iJ I A k j with
        | false => rfl
        | true => rw [iJ_iff] at q; omega)
    refine ⟨some k, x4, y5, L3, va_up R3 k o2, ou U3 o2 (some k), va_up s3 k (1 + szo s3 (L3 k) + szo s3 (va_up R3 k o2 k)), _, _, ?_, ?_, f2, f8, d7, bR4, ((a7.tr b3).tr d9).tr f3, f9.trans (f6.trans (d10.trans (c5.trans a8))), PW.congr (PW.node (k := k) (J1 := iJ I A k) (J2 := iJ I (k + 1) B) (o1 := o1) (o2 := o2) (lo1 := lo1) (hi1 := hi1) (lo2 := lo2) (hi2 := hi2) (PW.congr (J' := iJ I A k) a9 ?_ ?_ ?_ (fun _ => rfl)) (PW.congr (J' := iJ I (k + 1) B) d11 ?_ ?_ ?_ (fun _ => rfl)) kA kB hLk vu_eq ?_ ?_) (fun _ _ => rfl) (fun _ _ => rfl) (fun _ _ _ => rfl) ?_, ?_, ?_, ?_⟩
    · rw [fX6_even, if_pos c1, mid, ix_nI (by omega) (by decide), px_let, ex, a1, Option.bind_some, b1, Option.bind_some, nI_1, d3, Option.bind_some, f1, Option.bind_some]; rfl
    · rw [fX3_evenOf, if_neg c2, if_pos (show nI lev ≤ 6 from nI_le (b := 6) (by omega) (by decide)), px_let, mid, at_in (by omega) (by decide), Option.bind_some, ey, nI_1, a2, Option.bind_some, e1, c3, Option.bind_some, nI_1, d4, Option.bind_some, f4, Option.bind_some, ← e1, f7, Option.bind_some]
    · intro j hj; rw [iJ_iff] at hj; exact (hl3 j hj.2.2).1
    · intro j hj; rw [iJ_iff] at hj; rw [vu_ne (by omega)]; exact (hl3 j hj.2.2).2.1
    · intro j hj hne
      rw [iJ_iff] at hj
      rw [ou_ne (fun q => by have := no2 j q; omega), (hl3 j hj.2.2).2.2.1, ou_ne hne]
    · intro j hj; rfl
    · intro j hj; rw [iJ_iff] at hj; rw [vu_ne (by omega)]
    · intro j hj hne; rw [ou_ne hne]
    · intro c hc
      have q := no1 c hc
      rw [ou_ne (fun w => by have := no2 c w; omega), (hl3 c q.2.1).2.2.1, hc, ou_eq]
    · intro c hc; rw [hc, ou_eq]
    · intro j
      show iJ I A B j = (decide (j = k) || iJ I A k j || iJ I (k + 1) B j)
      unfold iJ
      by_cases q : j = k
      · subst q; simp [hIk, kA, kB]
      · cases I j with
        | false => simp [q]
        | true =>
          simp only [q, decide_false, Bool.false_or, Bool.true_and]
          by_cases w : j < k
          · simp [w, show j < B by omega, show ¬ k + 1 ≤ j by omega]
          · simp [w, show A ≤ j by omega, show k + 1 ≤ j by omega]
    · intro j hj
      have njk : j ≠ k := fun q => by
        have : iJ I A B j = true := (iJ_iff I A B j).mpr ⟨by rw [q]; exact hIk, by omega, by omega⟩
        rw [hj] at this; cases this
      have n1 : iJ I A k j = false := by
        cases q : iJ I A k j with
        | false => rfl
        | true =>
          rw [iJ_iff] at q
          have : iJ I A B j = true := (iJ_iff I A B j).mpr ⟨q.1, by omega, by omega⟩
          rw [hj] at this; cases this
      have n2 : iJ I (k + 1) B j = false := by
        cases q : iJ I (k + 1) B j with
        | false => rfl
        | true =>
          rw [iJ_iff] at q
          have : iJ I A B j = true := (iJ_iff I A B j).mpr ⟨q.1, by omega, by omega⟩
          rw [hj] at this; cases this
      have w1 := a10 j n1
      have w2 := d12 j n2
      have m1 : o1 ≠ some j := fun q => by
        have := (a9.2.2.2.2.2.2.1 j q).1; rw [n1] at this; cases this
      have m2 : o2 ≠ some j := fun q => by
        have := (d11.2.2.2.2.2.2.1 j q).1; rw [n2] at this; cases this
      refine ⟨?_, ?_, ?_, ?_⟩
      · rw [w2.1, vu_ne njk, w1.1]
      · rw [vu_ne njk, w2.2.1, w1.2.1]
      · rw [ou_ne m2, w2.2.2.1, ou_ne m1, w1.2.2.1]
      · rw [vu_ne njk, w2.2.2.2, w1.2.2.2]
    · -- the sizes
      intro j hj
      rw [iJ_iff] at hj
      have szk : ∀ q : Option Nat, q ≠ some k → szo (va_up s3 k (1 + szo s3 (L3 k) + szo s3 (va_up R3 k o2 k))) q = szo s3 q := by
        intro q hq
        cases q with
        | none => rfl
        | some c => show va_up s3 k _ c = s3 c; rw [vu_ne (fun e => hq (by rw [e]))]
      by_cases q : j = k
      · subst q
        rw [vu_eq, szk _ (fun w => by rw [hLk] at w; have := no1 _ w; omega), szk _ (fun w => by rw [vu_eq] at w; have := no2 _ w; omega)]
      · rw [vu_ne q]
        by_cases w : j < k
        · have J1 : iJ I A k j = true := (iJ_iff I A k j).mpr ⟨hj.1, hj.2.1, w⟩
          have s := a11 j J1
          have w3 := hl3 j w
          have cL : ∀ c, L1 j = some c → c < k := fun c hc => by have := (a9.2.1 j c J1 hc).1; rw [iJ_iff] at this; omega
          have cR : ∀ c, R1 j = some c → c < k := fun c hc => by have := (a9.2.2.1 j c J1 hc).1; rw [iJ_iff] at this; omega
          have same : ∀ q : Option Nat, (∀ c, q = some c → c < k) → szo s3 q = szo s1 q := by
            intro q hq
            cases q with
            | none => rfl
            | some c => exact (hl3 c (hq c rfl)).2.2.2
          rw [vu_ne q, w3.2.2.2, w3.1, w3.2.1, szk _ (fun e => by have := cL _ e; omega), szk _ (fun e => by have := cR _ e; omega), same _ cL, same _ cR]
          exact s
        · have J2 : iJ I (k + 1) B j = true := (iJ_iff I (k + 1) B j).mpr ⟨hj.1, by omega, hj.2.2⟩
          have s := d13 j J2
          rw [vu_ne q, szk _ (fun e => by have := (d11.2.1 j k J2 e).1; rw [iJ_iff] at this; omega), szk _ (fun e => by have := (d11.2.2.1 j k J2 e).1; rw [iJ_iff] at this; omega)]
          exact s
    · show va_up s3 k (1 + szo s3 (L3 k) + szo s3 (va_up R3 k o2 k)) k = _
      rw [vu_eq, hLk, vu_eq, d14]
      have e1 : szo s3 o1 = szo s1 o1 := by
        cases ho : o1 with
        | none => rfl
        | some c => exact (hl3 c (no1 c ho).2.1).2.2.2
      rw [e1, a12]
      have q1 := hsplit A k h1 kA
      have q2 := hsplit (k + 1) B (by omega) (by omega)
      omega
end EV
