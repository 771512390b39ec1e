section PG
variable {t : Nat} {x y T z : Ob} {G : Gh} {key b : Nat} {tn : Int32}
theorem GW.samew (hw : GW G) (hk : key < 64) {a c : Nat} (ha : onWay G key a) (hc : onWay G key c) (h : wid G a = wid G c) : a = c := by
  obtain ⟨n1, n2⟩ := hw.nest hk 64 a c ha hc (by omega) (by omega)
  obtain ⟨n3, n4⟩ := hw.nest hk 64 c a hc ha (by omega) (by omega)
  have p1 := hw.1 a ha.1
  have p2 := hw.1 c hc.1
  exact hw.uniq ha.1 hc.1 (by omega) (by omega) (by omega)
/-- from a key on the way on, downwards -/
theorem GW.down (hw : GW G) (hI : gI G key = true) {a : Nat} (ha : onWay G key a) (hne : a ≠ key) : (key < a ∧ ∃ c, gL G a = some c ∧ onWay G key c ∧ gU G c = some a ∧ wid G c < wid G a) ∨ (a < key ∧ ∃ c, gR G a = some c ∧ onWay G key c ∧ gU G c = some a ∧ wid G c < wid G a) := by
  rcases Nat.lt_or_gt_of_ne hne with q | q
  · refine Or.inr ⟨q, ?_⟩
    cases h : gR G a with
    | none => exact absurd ⟨q, ha.2.2⟩ (hw.2.2.2.2.1 a key ha.1 h hI)
    | some c => exact ⟨c, rfl, hw.way ha (Or.inr ⟨q, h⟩)⟩
  · refine Or.inl ⟨q, ?_⟩
    cases h : gL G a with
    | none => exact absurd ⟨ha.2.1, q⟩ (hw.2.2.2.1 a key ha.1 h hI)
    | some c => exact ⟨c, rfl, hw.way ha (Or.inl ⟨q, h⟩)⟩
theorem GW.self (hw : GW G) (hI : gI G key = true) : onWay G key key := ⟨hI, (hw.1 key hI).2.1, (hw.1 key hI).2.2.1⟩
theorem GW.wk (hw : GW G) (hI : gI G key = true) : ∀ (m a : Nat), onWay G key a → wid G a ≤ m → wid G key ≤ wid G a := by
  intro m
  induction m with
  | zero => intro a ha h; have := hw.w1 ha.1; omega
  | succ m ih =>
    intro a ha h
    by_cases e : a = key
    · rw [e]; omega
    · rcases hw.down hI ha e with ⟨-, c, -, c2, -, c4⟩ | ⟨-, c, -, c2, -, c4⟩
      · have := ih c c2 (by omega); omega
      · have := ih c c2 (by omega); omega
/-- a key pushed to a line -/
def pu (n : Nat) (o : Option Nat) : Nat := match o with
  | none => n
  | some _ => n + 1
def pl (ln : Nat → Nat) (n : Nat) (o : Option Nat) : Nat → Nat := match o with
  | none => ln
  | some c => va_up ln n c
theorem pl_lt {ln : Nat → Nat} {n i : Nat} {o : Option Nat} (h : i < n) : pl ln n o i = ln i := by
  cases o with
  | none => rfl
  | some c => exact vu_ne (by omega)
theorem pg_take {p : Ob} {ln : Nat → Nat} {n : Nat} {o : Option Nat} (ho : Bd o) (hb : b ≤ 16) (hn : n < 64) (h1 : p.1 1 = nI (min n b)) (h2 : ∀ i, i < n → i < b → p.2 0 i = nI (ln i)) :
    ∃ p', fX1_take (enc o) (nI b) p = some p' ∧ p'.1 1 = nI (min (pu n o) b) ∧ (∀ i, i < pu n o → i < b → p'.2 0 i = nI (pl ln n o i)) := by
  cases o with
  | none => exact ⟨p, by rw [fX1_take, enc_n, if_pos rfl], h1, h2⟩
  | some c =>
    have g1 : ¬ enc (some c) = -1 := fun e => by rw [enc_m1 ho] at e; cases e
    by_cases q : b ≤ n
    · refine ⟨p, ?_, ?_, fun i hi hib => ?_⟩
      · rw [fX1_take, if_neg g1, h1, if_pos (nI_le (by omega) (by omega))]
      · rw [h1]; show nI (min n b) = nI (min (n + 1) b); rw [Nat.min_eq_right q, Nat.min_eq_right (by omega)]
      · rw [pl_lt (by omega)]; exact h2 i (by omega) hib
    · have e : min n b = n := Nat.min_eq_left (by omega)
      rw [e] at h1
      refine ⟨ob_i (ob_f p 0 (upd (p.2 0) n (enc (some c)))) 1 (nI (n + 1)), ?_, ?_, fun i hi hib => ?_⟩
      · rw [fX1_take, if_neg g1, h1, if_neg (nI_ge (by omega) (by omega)), put_in (by omega) (by decide), Option.bind_some, px_let, px_let]
        show some (ob_i _ 1 (p.1 1 + 1)) = _
        rw [h1, nI_1]
      · show nI (n + 1) = nI (min (n + 1) b); rw [Nat.min_eq_left (by omega)]
      · show upd (p.2 0) n (enc (some c)) i = nI (va_up ln n c i)
        rw [upd_at, vup_at]
        have hi : i < n + 1 := hi
        by_cases w : i = n
        · rw [if_pos w, if_pos w]; rfl
        · rw [if_neg w, if_neg w]; exact h2 i (by omega) hib
theorem RepM.o24 {x : Ob} {L R U : Nat → Option Nat} {rt : Option Nat} {I : Nat → Bool} (h : RepM x t L R U rt I) {c : Nat} (hc : 14 ≤ c) (i : Nat) (v : Int32) : RepM (ob_a x c i v) t L R U rt I := by
  obtain ⟨b1, b2, b3, b4, b5⟩ := h
  refine ⟨fun k hk => ?_, fun k hk => ?_, fun k hk => ?_, fun k hk => ?_, ?_⟩
  · rw [sl_n _ _ _ _ (by omega)]; exact b1 k hk
  · rw [sl_n _ _ _ _ (by omega)]; exact b2 k hk
  · rw [sl_n _ _ _ _ (by omega)]; exact b3 k hk
  · rw [sl_n _ _ _ _ (by omega)]; exact b4 k hk
  · rw [ar_n _ _ _ (by omega)]; exact b5
/-- the reference's push -/
def rpush (x : Ob) (n : Nat) (o : Option Nat) : Ob := match o with
  | none => x
  | some c => ob_a x 25 n (nI c)
theorem rp_1 (x : Ob) (n : Nat) (o : Option Nat) : (rpush x n o).1 = x.1 := by cases o <;> rfl
theorem rp_2 (x : Ob) (n : Nat) (o : Option Nat) {d : Nat} (hd : d ≠ 25) : (rpush x n o).2 d = x.2 d := by
  cases o with
  | none => rfl
  | some c => exact ar_n _ _ _ hd
theorem rp_25 {x : Ob} {n : Nat} {o : Option Nat} {ln : Nat → Nat} (h : ∀ i, i < n → x.2 25 i = nI (ln i)) : ∀ i, i < pu n o → (rpush x n o).2 25 i = nI (pl ln n o i) := by
  intro i hi
  cases o with
  | none => exact h i hi
  | some c =>
    have hi : i < n + 1 := hi
    show (ob_a x 25 n (nI c)).2 25 i = nI (va_up ln n c i)
    rw [ar_a, upd_at, vup_at]
    by_cases w : i = n
    · rw [if_pos w, if_pos w]
    · rw [if_neg w, if_neg w]; exact h i (by omega)
theorem rp_M {x : Ob} {L R U : Nat → Option Nat} {rt : Option Nat} {I : Nat → Bool} (h : RepM x t L R U rt I) (n : Nat) (o : Option Nat) : RepM (rpush x n o) t L R U rt I := by
  cases o with
  | none => exact h
  | some c => exact h.o24 (by omega) _ _
set_option maxHeartbeats 2000000 in
theorem lay_L (hw : GW G) (hN : GN G) (hr : RepS y (gL G) (gR G) (gU G) (gs G) (gr G) tn) (ht : t < 8) (hb : b ≤ 16) {s : Nat} : ∀ (m k n n1 n2 : Nat) (x p : Ob) (ln : Nat → Nat), m + k = b → m < n1 → m < n2 → k ≤ n → n ≤ 2 * k + 1 → 0 < n → RepM x t (gL G) (gR G) (gU G) (gr G) (gI G) →
    (∀ i, i < n → gI G (ln i) = true) → (∀ i, i < n → x.2 25 i = nI (ln i)) → (∀ i, i < n → i < b → p.2 0 i = nI (ln i)) → p.1 1 = nI (min n b) → (∀ i, i < n → i ≠ 0 → ∃ i', i' < k ∧ gU G (ln i) = some (ln i')) → 0 < b →
    ∃ (x' p' : Ob) (q : Nat) (ln' : Nat → Nat), fX6_lays_L13 n1 (nI t) (nI s) (nI b) (nI n) (nI k) x = some x' ∧ fX1_fill_L14 n2 (nI b) (nI k) p y = some p' ∧ q ≤ b ∧ k ≤ q ∧ 0 < q ∧ p'.1 1 = nI q ∧ (∀ i, i < q → gI G (ln' i) = true ∧ p'.2 0 i = nI (ln' i)) ∧ (∀ i, i < q → i ≠ 0 → ∃ i', i' < q ∧ gU G (ln' i) = some (ln' i')) ∧ (∀ i, i < n → ln' i = ln i) ∧
      (∀ i, k ≤ i → i < q → x'.2 24 (ln' i) = nI s) ∧ (∀ j, (∀ i, k ≤ i → i < q → ln' i ≠ j) → x'.2 24 j = x.2 24 j) ∧ x'.1 = x.1 ∧ (∀ d, d ∉ [24, 25] → x'.2 d = x.2 d) := by
  intro m
  induction m with
  | zero =>
    intro k n n1 n2 x p ln h1 h2 h3 h4 h5 h6 hM hI h25 hp hp1 hst hb0
    obtain ⟨n1, rfl⟩ := Nat.exists_eq_succ_of_ne_zero (by omega : n1 ≠ 0)
    obtain ⟨n2, rfl⟩ := Nat.exists_eq_succ_of_ne_zero (by omega : n2 ≠ 0)
    have e : min n b = b := Nat.min_eq_right (by omega)
    rw [e] at hp1
    refine ⟨x, p, b, ln, ?_, ?_, Nat.le_refl _, by omega, hb0, hp1, fun i hi => ⟨hI i (by omega), hp i (by omega) hi⟩, fun i hi h0 => ?_, fun _ _ => rfl, fun i hi hi2 => by omega, fun _ _ => rfl, rfl, fun _ _ => rfl⟩
    · rw [fX6_lays_L13]
      by_cases w : nI n ≤ nI k
      · rw [if_pos w]
      · rw [if_neg w, if_pos (nI_le (by omega) (by omega))]
    · rw [fX1_fill_L14, hp1, if_pos (nI_le (by omega) (by omega))]
    · obtain ⟨i', q1, q2⟩ := hst i (by omega) h0; exact ⟨i', by omega, q2⟩
  | succ m ih =>
    intro k n n1 n2 x p ln h1 h2 h3 h4 h5 h6 hM hI h25 hp hp1 hst hb0
    obtain ⟨n1, rfl⟩ := Nat.exists_eq_succ_of_ne_zero (by omega : n1 ≠ 0)
    obtain ⟨n2, rfl⟩ := Nat.exists_eq_succ_of_ne_zero (by omega : n2 ≠ 0)
    by_cases hkn : n ≤ k
    · have e : min n b = n := Nat.min_eq_left (by omega)
      rw [e] at hp1
      refine ⟨x, p, n, ln, ?_, ?_, by omega, by omega, h6, hp1, fun i hi => ⟨hI i hi, hp i hi (by omega)⟩, fun i hi h0 => ?_, fun _ _ => rfl, fun i hi hi2 => by omega, fun _ _ => rfl, rfl, fun _ _ => rfl⟩
      · rw [fX6_lays_L13, if_pos (nI_le hkn (by omega))]
      · rw [fX1_fill_L14, hp1, if_pos (nI_le hkn (by omega))]
      · obtain ⟨i', q1, q2⟩ := hst i (by omega) h0; exact ⟨i', by omega, q2⟩
    · have hk : k < n := by omega
      have hIk := hI k hk
      have hc64 : ln k < 64 := (hw.1 _ hIk).1
      have bL := WF.bL hw hN (ln k)
      have bR := WF.bR hw hN (ln k)
      have hx : ∀ (K : Nat → Option Ob), ix (nI k) 64 K = K k := fun K => ix_nI (by omega) (by decide)
      -- the class
      obtain ⟨p1, a1, a2, a3⟩ := pg_take (p := p) (ln := ln) (n := n) (o := gL G (ln k)) bL hb (by omega) hp1 hp
      have pun : pu n (gL G (ln k)) ≤ n + 1 ∧ n ≤ pu n (gL G (ln k)) := by cases gL G (ln k) <;> simp [pu]
      obtain ⟨p2, a4, a5, a6⟩ := pg_take (p := p1) (ln := pl ln n (gL G (ln k))) (n := pu n (gL G (ln k))) (o := gR G (ln k)) bR hb (by omega) a2 a3
      have pun2 : pu (pu n (gL G (ln k))) (gR G (ln k)) ≤ pu n (gL G (ln k)) + 1 ∧ pu n (gL G (ln k)) ≤ pu (pu n (gL G (ln k))) (gR G (ln k)) := by cases gR G (ln k) <;> simp [pu]
      -- the reference
      have r0 : ∀ i, i < n → (ob_a x 24 (ln k) (nI s)).2 25 i = nI (ln i) := fun i hi => by rw [ar_n _ _ _ (by decide)]; exact h25 i hi
      have r1 := rp_25 (o := gL G (ln k)) r0
      have r2 := rp_25 (o := gR G (ln k)) r1
      have M1 : RepM (ob_a x 24 (ln k) (nI s)) t (gL G) (gR G) (gU G) (gr G) (gI G) := hM.o24 (by omega) _ _
      have M2 := rp_M (rp_M M1 n (gL G (ln k))) (pu n (gL G (ln k))) (gR G (ln k))
      have lnk1 : ∀ i, i < n → pl (pl ln n (gL G (ln k))) (pu n (gL G (ln k))) (gR G (ln k)) i = ln i := fun i hi => by rw [pl_lt (by omega), pl_lt hi]
      have new : ∀ i, n ≤ i → i < pu (pu n (gL G (ln k))) (gR G (ln k)) → gI G (pl (pl ln n (gL G (ln k))) (pu n (gL G (ln k))) (gR G (ln k)) i) = true ∧ gU G (pl (pl ln n (gL G (ln k))) (pu n (gL G (ln k))) (gR G (ln k)) i) = some (ln k) := by
        intro i hi1 hi2
        by_cases w : i < pu n (gL G (ln k))
        · rw [pl_lt w]
          cases hL : gL G (ln k) with
          | none => rw [hL] at w; have w : i < n := w; omega
          | some c =>
            rw [hL] at w
            have w : i < n + 1 := w
            have ei : i = n := by omega
            show gI G (va_up ln n c i) = true ∧ gU G (va_up ln n c i) = some (ln k)
            rw [ei, vu_eq]
            obtain ⟨z1, z2, -, -⟩ := hw.2.1 (ln k) c hIk hL
            exact ⟨z1, z2⟩
        · cases hR : gR G (ln k) with
          | none => rw [hR] at hi2; exact absurd hi2 w
          | some c =>
            rw [hR] at hi2
            have hi2 : i < pu n (gL G (ln k)) + 1 := hi2
            have ei : i = pu n (gL G (ln k)) := by omega
            show gI G (va_up _ _ c i) = true ∧ gU G (va_up _ _ c i) = some (ln k)
            rw [ei, vu_eq]
            obtain ⟨z1, z2, -, -⟩ := hw.2.2.1 (ln k) c hIk hR
            exact ⟨z1, z2⟩
      obtain ⟨x', p', q, ln', b1, b2, b3, b4, b5, b6, b7, b8, b9, b10, b11, b12, b13⟩ := ih (k + 1) (pu (pu n (gL G (ln k))) (gR G (ln k))) n1 n2 (rpush (rpush (ob_a x 24 (ln k) (nI s)) n (gL G (ln k))) (pu n (gL G (ln k))) (gR G (ln k))) p2 (pl (pl ln n (gL G (ln k))) (pu n (gL G (ln k))) (gR G (ln k))) (by omega) (by omega) (by omega) (by omega) (by omega) (by omega) M2
        (fun i hi => by
          by_cases w : i < n
          · rw [lnk1 i w]; exact hI i w
          · exact (new i (by omega) hi).1)
        r2 a6 a5
        (fun i hi h0 => by
          by_cases w : i < n
          · obtain ⟨i', q1, q2⟩ := hst i w h0
            exact ⟨i', by omega, by rw [lnk1 i w, lnk1 i' (by omega)]; exact q2⟩
          · exact ⟨k, by omega, by rw [lnk1 k hk]; exact (new i (by omega) hi).2⟩) hb0
      have lk : ln' k = ln k := by rw [b9 k (by omega), lnk1 k hk]
      have e24 : ∀ j, (rpush (rpush (ob_a x 24 (ln k) (nI s)) n (gL G (ln k))) (pu n (gL G (ln k))) (gR G (ln k))).2 24 j = if j = ln k then nI s else x.2 24 j := fun j => by
        rw [rp_2 _ _ _ (by decide), rp_2 _ _ _ (by decide), ar_a, upd_at]
      refine ⟨x', p', q, ln', ?_, ?_, b3, by omega, b5, b6, b7, b8, fun i hi => by rw [b9 i (by omega), lnk1 i hi], fun i hi1 hi2 => ?_, fun j hj => ?_, by rw [b12, rp_1, rp_1]; rfl, fun d hd => ?_⟩
      · have e5 : (ob_a x 24 (ln k) (nI s)).2 5 (64 * t + ln k) = enc (gL G (ln k)) := M1.2.1 _ hIk
        have e6 : (ob_a x 24 (ln k) (nI s)).2 6 (64 * t + ln k) = enc (gR G (ln k)) := M1.2.2.1 _ hIk
        have j94 : ∀ (xx : Ob) (nn : Nat), nn < 64 → fX6_lays_J94 (fX6_lays_L13 n1) (nI t) (nI s) (nI b) (nI nn) (nI k) (enc (gR G (ln k))) xx = fX6_lays_L13 n1 (nI t) (nI s) (nI b) (nI (pu nn (gR G (ln k)))) (nI (k + 1)) (rpush xx nn (gR G (ln k))) := by
          intro xx nn hnn
          rw [fX6_lays_J94]
          cases hR : gR G (ln k) with
          | none => rw [enc_n, if_pos m1_lt, fX6_lays_J111, px_let, nI_1]; rfl
          | some c =>
            rw [hR] at bR
            rw [if_neg (fun e => by rw [enc_lt0 bR] at e; cases e), ix_nI hnn (by decide), px_let, px_let, nI_1, fX6_lays_J111, px_let, nI_1]; rfl
        rw [fX6_lays_L13, if_neg (nI_ge hk (by omega)), if_neg (nI_ge (by omega) (by omega)), hx, h25 k hk, ix_nI hc64 (by decide), px_let, hx, r0 k hk, ix6 ht hc64, px_let, hx, r0 k hk, ix6 ht hc64, px_let, e5, e6]
        cases hL : gL G (ln k) with
        | none =>
          rw [hL] at b1
          rw [enc_n, if_pos m1_lt, j94 _ n (by omega)]; exact b1
        | some c =>
          rw [hL] at b1 bL
          rw [if_neg (fun e => by rw [enc_lt0 bL] at e; cases e), ix_nI (by omega) (by decide), px_let, px_let, nI_1, j94 _ (n + 1) (by omega)]; exact b1
      · have e : ¬ p.1 1 ≤ nI k := by rw [hp1]; exact nI_ge (by omega) (by omega)
        have h16 : ¬ (16 : Int32) ≤ nI k := nI_ge (b := 16) (by omega) (by omega)
        have a3k : p1.2 0 k = nI (ln k) := by rw [a3 k (by omega) (by omega), pl_lt hk]
        have l3 := rs_left hr (Bd_s hc64)
        have r3 := rs_right hr (Bd_s hc64)
        rw [enc_s, Option.bind_some] at l3 r3
        rw [fX1_fill_L14, if_neg e, if_neg h16, at_in (by omega) (by decide), Option.bind_some, hp k hk (by omega), l3, Option.bind_some, a1, Option.bind_some, at_in (by omega) (by decide), Option.bind_some, a3k, r3, Option.bind_some, a4, Option.bind_some, px_let, nI_1, b2]
      · by_cases w : k = i
        · subst w
          rw [lk]
          by_cases v : ∃ i', k + 1 ≤ i' ∧ i' < q ∧ ln' i' = ln k
          · obtain ⟨i', v1, v2, v3⟩ := v
            rw [← v3]; exact b10 i' v1 v2
          · rw [b11 (ln k) (fun i' v1 v2 v3 => v ⟨i', v1, v2, v3⟩), e24, if_pos rfl]
        · exact b10 i (by omega) hi2
      · rw [b11 j (fun i v1 v2 => hj i (by omega) v2), e24, if_neg (fun e => hj k (Nat.le_refl _) (by omega) (by rw [lk, e]))]
      · have d24 : d ≠ 24 := fun e => hd (by rw [e]; decide)
        have d25 : d ≠ 25 := fun e => hd (by rw [e]; decide)
        rw [b13 d hd, rp_2 _ _ _ d25, rp_2 _ _ _ d25, ar_n _ _ _ d24]
/-- is a key on the page -/
theorem has_L {p : Ob} {q : Nat} {ln : Nat → Nat} (hq : q ≤ 16) (hp1 : p.1 1 = nI q) (hp : ∀ i, i < q → ln i < 64 ∧ p.2 0 i = nI (ln i)) {j : Nat} (hj : j < 64) : ∀ (m i n : Nat), m + i = q → m < n → (fX1_has_L2 n (nI j) (nI i) p = some 1 ∧ ∃ i', i ≤ i' ∧ i' < q ∧ ln i' = j) ∨ (fX1_has_L2 n (nI j) (nI i) p = some 0 ∧ ∀ i', i ≤ i' → i' < q → ln i' ≠ j) := by
  intro m
  induction m with
  | zero =>
    intro i n h1 h2
    obtain ⟨n, rfl⟩ := Nat.exists_eq_succ_of_ne_zero (by omega : n ≠ 0)
    exact Or.inr ⟨by rw [fX1_has_L2, hp1, if_pos (nI_le (by omega) (by omega))], fun i' q1 q2 => by omega⟩
  | succ m ih =>
    intro i n h1 h2
    obtain ⟨n, rfl⟩ := Nat.exists_eq_succ_of_ne_zero (by omega : n ≠ 0)
    obtain ⟨l1, l2⟩ := hp i (by omega)
    have st : fX1_has_L2 (n + 1) (nI j) (nI i) p = if nI (ln i) = nI j then some 1 else fX1_has_L2 n (nI j) (nI (i + 1)) p := by
      rw [fX1_has_L2, hp1, if_neg (nI_ge (by omega) (by omega)), at_in (by omega) (by decide), Option.bind_some, l2, px_let, nI_1]
    by_cases e : ln i = j
    · exact Or.inl ⟨by rw [st, if_pos (by rw [e])], i, Nat.le_refl _, by omega, e⟩
    · rw [if_neg (fun w => e ((nI_eq (by omega) (by omega)).mp w))] at st
      rcases ih (i + 1) n (by omega) (by omega) with ⟨q1, i', q2, q3, q4⟩ | ⟨q1, q2⟩
      · exact Or.inl ⟨by rw [st, q1], i', by omega, q3, q4⟩
      · refine Or.inr ⟨by rw [st, q1], fun i' v1 v2 => ?_⟩
        by_cases w : i' = i
        · rw [w]; exact e
        · exact q2 i' (by omega) v2
theorem has_ok {p : Ob} {q : Nat} {ln : Nat → Nat} (hq : q ≤ 16) (hp1 : p.1 1 = nI q) (hp : ∀ i, i < q → ln i < 64 ∧ p.2 0 i = nI (ln i)) {j : Nat} (hj : j < 64) : (fX1_has (nI j) p = some 1 ∧ ∃ i, i < q ∧ ln i = j) ∨ (fX1_has (nI j) p = some 0 ∧ ∀ i, i < q → ln i ≠ j) := by
  rcases has_L hq hp1 hp hj q 0 FU (by omega) (by show q < 5000; omega) with ⟨q1, i', q2, q3, q4⟩ | ⟨q1, q2⟩
  · exact Or.inl ⟨q1, i', q3, q4⟩
  · exact Or.inr ⟨q1, fun i hi => q2 i (by omega) hi⟩
/-- what is on the page, of the keys of the way, is its upper part -/
theorem pg_clos (hw : GW G) (hk : key < 64) {q : Nat} {ln : Nat → Nat} (hst : ∀ i, i < q → i ≠ 0 → ∃ i', i' < q ∧ gU G (ln i) = some (ln i')) : ∀ (m i : Nat), i < q → onWay G key (ln i) → 64 ≤ m + wid G (ln i) → ∀ c, onWay G key c → wid G (ln i) ≤ wid G c → wid G c ≤ wid G (ln 0) → ∃ i', i' < q ∧ ln i' = c := by
  intro m
  induction m with
  | zero =>
    intro i hi ho hm c hc h1 h2
    have := hw.w1 hc.1
    exact ⟨i, hi, hw.samew hk ho hc (by omega)⟩
  | succ m ih =>
    intro i hi ho hm c hc h1 h2
    by_cases e : wid G (ln i) = wid G c
    · exact ⟨i, hi, hw.samew hk ho hc e⟩
    · have hi0 : i ≠ 0 := fun w => by rw [w] at h1 e; omega
      obtain ⟨i', q1, q2⟩ := hst i hi hi0
      obtain ⟨o1, -, o3⟩ := hw.up ho q2
      have : wid G (ln i') ≤ wid G c := by
        rcases Nat.lt_or_ge (wid G c) (wid G (ln i')) with w | w
        · rcases hw.next hk ho q2 hc w with v | v
          · rw [v] at e; omega
          · omega
        · exact w
      exact ih i' q1 o1 (by omega) c hc this h2
/-- the reference goes down the way -/
theorem pg_down (hw : GW G) (hM : RepM x t (gL G) (gR G) (gU G) (gr G) (gI G)) (ht : t < 8) (hI : gI G key = true) {k82 : Int32 → Int32 → Int32 → Int32 → Int32 → Ob → Option (Int32 × Ob)} {vb v4 : Int32} : ∀ (m a n : Nat), onWay G key a → wid G a ≤ m → m < n →
    ∃ c, fX6_pages_L102 k82 n (nI t) vb (nI key) v4 (nI a) x = k82 (nI t) vb (nI key) v4 (nI c) x ∧ onWay G key c ∧ wid G c ≤ wid G a ∧ (c = key ∨ x.2 24 c < 0) ∧ (c = a ∨ ∃ p, gU G c = some p ∧ ¬ x.2 24 p < 0 ∧ onWay G key p ∧ wid G p ≤ wid G a) := by
  intro m
  induction m with
  | zero => intro a n ha h; have := hw.w1 ha.1; omega
  | succ m ih =>
    intro a n ha h1 h2
    obtain ⟨n, rfl⟩ := Nat.exists_eq_succ_of_ne_zero (by omega : n ≠ 0)
    have ha64 := (hw.1 a ha.1).1
    have hk64 := (hw.1 key hI).1
    by_cases e : a = key
    · exact ⟨a, by rw [fX6_pages_L102, if_pos (by rw [e])], ha, Nat.le_refl _, Or.inl e, Or.inl rfl⟩
    · have ne : ¬ nI a = nI key := fun w => e ((nI_eq (by omega) (by omega)).mp w)
      by_cases w : x.2 24 a < 0
      · exact ⟨a, by rw [fX6_pages_L102, if_neg ne, ix_nI ha64 (by decide), if_pos w], ha, Nat.le_refl _, Or.inr w, Or.inl rfl⟩
      · rcases hw.down hI ha e with ⟨d1, c, c1, c2, c3, c4⟩ | ⟨d1, c, c1, c2, c3, c4⟩
        · obtain ⟨c', b1, b2, b3, b4, b5⟩ := ih c n c2 (by omega) (by omega)
          have e5 : x.2 5 (64 * t + a) = enc (gL G a) := hM.2.1 a ha.1
          refine ⟨c', ?_, b2, by omega, b4, Or.inr ?_⟩
          · rw [fX6_pages_L102, if_neg ne, ix_nI ha64 (by decide), if_neg w, if_neg (nI_ge d1 (by omega)), ix6 ht ha64, fX6_pages_J151, e5, c1, enc_s, b1]
          · rcases b5 with q | ⟨p, q1, q2, q3, q4⟩
            · rw [q]; exact ⟨a, c3, w, ha, Nat.le_refl _⟩
            · exact ⟨p, q1, q2, q3, by omega⟩
        · obtain ⟨c', b1, b2, b3, b4, b5⟩ := ih c n c2 (by omega) (by omega)
          have e6 : x.2 6 (64 * t + a) = enc (gR G a) := hM.2.2.1 a ha.1
          refine ⟨c', ?_, b2, by omega, b4, Or.inr ?_⟩
          · rw [fX6_pages_L102, if_neg ne, ix_nI ha64 (by decide), if_neg w, if_pos (nI_le (by omega) (by omega)), ix6 ht ha64, fX6_pages_J151, e6, c1, enc_s, b1]
          · rcases b5 with q | ⟨p, q1, q2, q3, q4⟩
            · rw [q]; exact ⟨a, c3, w, ha, Nat.le_refl _⟩
            · exact ⟨p, q1, q2, q3, by omega⟩
/-- the class goes up the way -/
theorem pg_up (hw : GW G) (hr : RepS y (gL G) (gR G) (gU G) (gs G) (gr G) tn) (hk : key < 64) {p : Ob} {q : Nat} {ln : Nat → Nat} (hq : q ≤ 16) (hp1 : p.1 1 = nI q) (hp : ∀ i, i < q → ln i < 64 ∧ p.2 0 i = nI (ln i)) {c u : Nat} (hc : onWay G key c) (hu : gU G c = some u) (hum : ∃ i, i < q ∧ ln i = u) (hno : ∀ c', onWay G key c' → wid G c' ≤ wid G c → ∀ i, i < q → ln i ≠ c') : ∀ (m a st n : Nat), onWay G key a → wid G a ≤ wid G c → wid G c ≤ m + wid G a → m < n → st + m < 64 → fX1_startOfNext_L5 n (nI a) (nI st) p y = some (nI c) := by
  intro m
  induction m with
  | zero =>
    intro a st n ha h1 h2 h3 h4
    obtain ⟨n, rfl⟩ := Nat.exists_eq_succ_of_ne_zero (by omega : n ≠ 0)
    have e : a = c := hw.samew hk ha hc (by omega)
    subst e
    have hu64 := (hw.1 u (hw.up hc hu).1.1).1
    have u1 := rs_up hr (Bd_s (hw.1 a ha.1).1)
    rw [enc_s, Option.bind_some, hu, enc_s] at u1
    rw [fX1_startOfNext_L5, if_neg (st64 (by omega)), u1, Option.bind_some, if_neg (nI_ne_m1 (by omega))]
    rcases has_ok hq hp1 hp hu64 with ⟨v1, -⟩ | ⟨-, v2⟩
    · rw [v1, Option.bind_some, if_neg (by decide)]
    · obtain ⟨i, w1, w2⟩ := hum; exact absurd w2 (v2 i w1)
  | succ m ih =>
    intro a st n ha h1 h2 h3 h4
    obtain ⟨n, rfl⟩ := Nat.exists_eq_succ_of_ne_zero (by omega : n ≠ 0)
    by_cases e : wid G a = wid G c
    · have e : a = c := hw.samew hk ha hc e
      subst e
      have hu64 := (hw.1 u (hw.up hc hu).1.1).1
      have u1 := rs_up hr (Bd_s (hw.1 a ha.1).1)
      rw [enc_s, Option.bind_some, hu, enc_s] at u1
      rw [fX1_startOfNext_L5, if_neg (st64 (by omega)), u1, Option.bind_some, if_neg (nI_ne_m1 (by omega))]
      rcases has_ok hq hp1 hp hu64 with ⟨v1, -⟩ | ⟨-, v2⟩
      · rw [v1, Option.bind_some, if_neg (by decide)]
      · obtain ⟨i, w1, w2⟩ := hum; exact absurd w2 (v2 i w1)
    · cases hU : gU G a with
      | none =>
        have r := hw.2.2.2.2.2.1 a ha.1 hU
        obtain ⟨-, -, r1, r2⟩ := hw.2.2.2.2.2.2.2.1 a r
        have e64 : wid G a = 64 := by unfold wid; rw [r1, r2]
        have := hw.w1 hc.1
        omega
      | some u' =>
        obtain ⟨o1, -, o3⟩ := hw.up ha hU
        have lw : wid G u' ≤ wid G c := by
          rcases Nat.lt_or_ge (wid G c) (wid G u') with w | w
          · rcases hw.next hk ha hU hc w with v | v
            · rw [v] at e; omega
            · omega
          · exact w
        have hu64 := (hw.1 u' o1.1).1
        have u1 := rs_up hr (Bd_s (hw.1 a ha.1).1)
        rw [enc_s, Option.bind_some, hU, enc_s] at u1
        rw [fX1_startOfNext_L5, if_neg (st64 (by omega)), u1, Option.bind_some, if_neg (nI_ne_m1 (by omega))]
        rcases has_ok hq hp1 hp hu64 with ⟨-, i, w1, w2⟩ | ⟨v1, -⟩
        · exact absurd w2 (hno u' o1 lw i w1)
        · rw [v1, Option.bind_some, if_pos rfl, px_let, nI_1, ih u' (st + 1) n o1 lw (by omega) (by omega) (by omega)]
set_option maxHeartbeats 2000000 in
theorem pg_L (hw : GW G) (hN : GN G) (hr : RepS y (gL G) (gR G) (gU G) (gs G) (gr G) tn) (ht : t < 8) (hb1 : 1 ≤ b) (hb : b ≤ 16) (hI : gI G key = true) : ∀ (m s cn n1 n2 : Nat) (x p : Ob), onWay G key s → wid G s ≤ m → m + 1 < n1 → m < n2 → cn + wid G s ≤ 64 → RepM x t (gL G) (gR G) (gU G) (gr G) (gI G) → (∀ c, onWay G key c → wid G c ≤ wid G s → x.2 24 c < 0) →
    ∃ (v : Int32) (x' p' : Ob), fX6_pages_L82 n1 (nI t) (nI b) (nI key) (nI cn) (nI s) x = some (v, x') ∧ fX1_countOnWay_L9 n2 (nI b) (nI key) (nI s) (nI (cn + 1)) p y = some (v, p') ∧ x'.1 = x.1 ∧ (∀ d, d ∉ [24, 25] → x'.2 d = x.2 d) := by
  have hk64 := (hw.1 key hI).1
  intro m
  induction m with
  | zero => intro s cn n1 n2 x p hs h; have := hw.w1 hs.1; omega
  | succ m ih =>
    intro s cn n1 n2 x p hs h1 h2 h3 h4 hM hneg
    obtain ⟨n1, rfl⟩ := Nat.exists_eq_succ_of_ne_zero (by omega : n1 ≠ 0)
    obtain ⟨n2, rfl⟩ := Nat.exists_eq_succ_of_ne_zero (by omega : n2 ≠ 0)
    have hs64 := (hw.1 s hs.1).1
    have w1 := hw.w1 hs.1
    have hself := hw.self hI
    have hks := hw.wk hI 64 s hs (by omega)
    -- the page from s on
    have M0 : RepM (ob_a x 25 0 (nI s)) t (gL G) (gR G) (gU G) (gr G) (gI G) := hM.o24 (by omega) _ _
    obtain ⟨p0, t1, t2, t3⟩ := pg_take (p := ob_i p 1 0) (ln := fun _ => s) (n := 0) (o := some s) (Bd_s hs64) hb (by omega) (by show (0 : Int32) = nI (min 0 b); rw [Nat.min_eq_left (by omega)]; rfl) (fun i hi => by omega)
    obtain ⟨x1, p1, q, ln, a1, a2, a3, a4, a5, a6, a7, a8, a9, a10, a11, a12, a13⟩ := lay_L (s := s) hw hN hr ht hb b 0 1 FU FU (ob_a x 25 0 (nI s)) p0 (fun _ => s) (by omega) (by show b < 5000; omega) (by show b < 5000; omega) (by omega) (by omega) (by omega) M0 (fun _ _ => hs.1) (fun i hi => by rw [show i = 0 by omega, ar_a, upd_at, if_pos rfl]) (fun i hi hib => by
        have := t3 i hi hib
        rw [this]
        have i0 : i = 0 := by have hi : i < 0 + 1 := hi; omega
        show nI (va_up (fun _ => s) 0 s i) = nI s
        rw [i0, vu_eq]) t2 (fun i hi h0 => by omega) hb1
    have l0 : ln 0 = s := a9 0 (by omega)
    have e24 : (ob_a x 25 0 (nI s)).2 24 = x.2 24 := ar_n _ _ _ (by decide)
    have hp : ∀ i, i < q → ln i < 64 ∧ p1.2 0 i = nI (ln i) := fun i hi => ⟨(hw.1 _ (a7 i hi).1).1, (a7 i hi).2⟩
    have M1 : RepM x1 t (gL G) (gR G) (gU G) (gr G) (gI G) := by
      obtain ⟨b1, b2, b3, b4, b5⟩ := M0
      refine ⟨fun k hk => ?_, fun k hk => ?_, fun k hk => ?_, fun k hk => ?_, ?_⟩
      · show x1.2 7 _ = _; rw [a13 7 (by decide)]; exact b1 k hk
      · show x1.2 5 _ = _; rw [a13 5 (by decide)]; exact b2 k hk
      · show x1.2 6 _ = _; rw [a13 6 (by decide)]; exact b3 k hk
      · show x1.2 4 _ = _; rw [a13 4 (by decide)]; exact b4 k hk
      · rw [a13 3 (by decide)]; exact b5
    have mem1 : ∀ c, (∃ i, i < q ∧ ln i = c) → x1.2 24 c = nI s := fun c ⟨i, hi, e⟩ => by rw [← e]; exact a10 i (by omega) hi
    have mem0 : ∀ c, onWay G key c → wid G c ≤ wid G s → (∀ i, i < q → ln i ≠ c) → x1.2 24 c < 0 := fun c hc hcw hno => by
      rw [a11 c (fun i _ hi => hno i hi), e24]; exact hneg c hc hcw
    have fx : ∀ d, d ∉ [24, 25] → x1.2 d = x.2 d := fun d hd => by rw [a13 d hd, ar_n _ _ _ (fun e => hd (by rw [e]; decide))]
    have fx1 : x1.1 = x.1 := a12
    have lays : fX6_lays (nI t) (nI s) (nI b) x = some x1 := by
      rw [fX6_lays]
      show ix (nI 0) 64 _ = _
      rw [ix_nI (by omega) (by decide), px_let]; exact a1
    have fill : fX1_fill (nI b) (nI s) p y = some p1 := by
      rw [enc_s] at t1
      rw [fX1_fill, px_let, t1, Option.bind_some]; exact a2
    have kneg : x.2 24 key < 0 := hneg key hself hks
    obtain ⟨c, d1, d2, d3, d4, d5⟩ := pg_down (x := x1) (k82 := fX6_pages_L82 n1) (vb := nI b) (v4 := nI (cn + 1)) hw M1 ht hI 64 s FU hs (by omega) fu64
    have ref : fX6_pages_L82 (n1 + 1) (nI t) (nI b) (nI key) (nI cn) (nI s) x = fX6_pages_L82 n1 (nI t) (nI b) (nI key) (nI (cn + 1)) (nI c) x1 := by
      rw [fX6_pages_L82, ix_nI hk64 (by decide), if_neg (fun e => absurd kneg (Int32.not_lt.mpr e)), lays, Option.bind_some, px_let, nI_1, d1]
    have cls0 : fX1_countOnWay_L9 (n2 + 1) (nI b) (nI key) (nI s) (nI (cn + 1)) p y = Option.bind (fX1_has (nI key) p1) (fun q26 => (if q26 = 0 then Option.bind (fX1_startOfNext (nI key) p1 y) (fun q38 => px_let (nI (cn + 1) + (1) : Int32) (fun b43 => fX1_countOnWay_L9 n2 (nI b) (nI key) q38 b43 p1 y)) else some (nI (cn + 1), p1))) := by
      rw [fX1_countOnWay_L9, if_neg (nlt64 (by omega)), fill, Option.bind_some]
    rcases has_ok (by omega) a6 hp hk64 with ⟨v1, vm⟩ | ⟨v1, vn⟩
    · obtain ⟨n1, rfl⟩ := Nat.exists_eq_succ_of_ne_zero (by omega : n1 ≠ 0)
      refine ⟨nI (cn + 1), x1, p1, ?_, ?_, fx1, fx⟩
      · rw [ref, fX6_pages_L82, ix_nI hk64 (by decide), mem1 key vm, if_pos (nI_pos' (by omega))]
      · rw [cls0, v1, Option.bind_some, if_neg (by decide)]
    · have cneg : x1.2 24 c < 0 := by
        rcases d4 with e | e
        · rw [e]; exact mem0 key hself hks vn
        · exact e
      have cno : ∀ i, i < q → ln i ≠ c := fun i hi e => by
        rw [mem1 c ⟨i, hi, e⟩] at cneg; exact nI_pos (by omega) cneg
      have cs : c ≠ s := fun e => cno 0 a5 (by rw [l0, e])
      obtain ⟨u, u1, u2, u3, u4⟩ : ∃ p, gU G c = some p ∧ ¬ x1.2 24 p < 0 ∧ onWay G key p ∧ wid G p ≤ wid G s := by
        rcases d5 with e | e
        · exact absurd e cs
        · exact e
      have um : ∃ i, i < q ∧ ln i = u := by
        by_cases w : ∃ i, i < q ∧ ln i = u
        · exact w
        · exact absurd (mem0 u u3 u4 (fun i hi e => w ⟨i, hi, e⟩)) u2
      have cw : wid G c < wid G u := (hw.up d2 u1).2.2
      have hno : ∀ c', onWay G key c' → wid G c' ≤ wid G c → ∀ i, i < q → ln i ≠ c' := by
        intro c' hc' hw' i hi e
        obtain ⟨i', v1, v2⟩ := pg_clos hw hk64 a8 64 i hi (by rw [e]; exact hc') (by omega) c d2 (by rw [e]; exact hw') (by rw [l0]; omega)
        exact cno i' v1 v2
      have wkc := hw.wk hI 64 c d2 (by omega)
      have wk1 := hw.w1 hI
      have up := pg_up hw hr hk64 (by omega : q ≤ 16) a6 hp d2 u1 um hno 63 key 0 FU hself wkc (by omega) (by decide) (by omega)
      obtain ⟨v, x', p', b1, b2, b3, b4⟩ := ih c (cn + 1) n1 n2 x1 p1 d2 (by omega) (by omega) (by omega) (by omega) M1 (fun c' hc' hw' => mem0 c' hc' (by omega) (hno c' hc' hw'))
      refine ⟨v, x', p', by rw [ref, b1], ?_, by rw [b3, fx1], fun d hd => by rw [b4 d hd, fx d hd]⟩
      have up' : fX1_startOfNext (nI key) p1 y = some (nI c) := up
      rw [cls0, v1, Option.bind_some, if_pos rfl, up', Option.bind_some, px_let, nI_1, b2]
theorem pg_50 : ∀ (m j n : Nat) (x : Ob), m + j = 64 → m < n → (∀ k, k < j → x.2 24 k = -1) → ∃ x', fX6_pages_L50 n (nI t) (nI b) (nI key) (nI j) x = fX6_pages_J71 (nI t) (nI b) (nI key) x' ∧ (∀ k, k < 64 → x'.2 24 k = -1) ∧ x'.1 = x.1 ∧ (∀ d, d ≠ 24 → x'.2 d = x.2 d) := by
  intro m
  induction m with
  | zero =>
    intro j n x h1 h2 h3
    obtain ⟨n, rfl⟩ := Nat.exists_eq_succ_of_ne_zero (by omega : n ≠ 0)
    exact ⟨x, by rw [fX6_pages_L50, if_pos (ge64 (by omega) (by omega))], fun k hk => h3 k (by omega), rfl, fun _ _ => rfl⟩
  | succ m ih =>
    intro j n x h1 h2 h3
    obtain ⟨n, rfl⟩ := Nat.exists_eq_succ_of_ne_zero (by omega : n ≠ 0)
    have hj : j < 64 := by omega
    obtain ⟨x', b1, b2, b3, b4⟩ := ih (j + 1) n (ob_a x 24 j (-1)) (by omega) (by omega) (fun k hk => by
      rw [ar_a, upd_at]
      by_cases e : k = j
      · rw [if_pos e]
      · rw [if_neg e]; exact h3 k (by omega))
    refine ⟨x', ?_, b2, b3, fun d hd => by rw [b4 d hd, ar_n _ _ _ hd]⟩
    rw [fX6_pages_L50, if_neg (st64 hj), ix_nI hj (by decide), px_let, px_let, nI_1, b1]
/-- a key that holds refuses: outside of 0 to 63 -/
theorem holds_out {p : Int32} (h : p < 0 ∨ nI 64 ≤ p) : fX3_holds p y = some 0 := by
  have e : fX3_sizeOf p y = some 0 := by
    rw [fX3_sizeOf]
    by_cases q : p < 0
    · rw [if_pos q]
    · rcases h with h | h
      · exact absurd h q
      · rw [if_neg q, if_pos h]
  rw [fX3_holds, e, Option.bind_some, if_pos (by decide)]
theorem isKey6_0 {p : Int32} (h : p < 0 ∨ nI 64 ≤ p) : fX6_isKey p = some 0 := by
  rw [fX6_isKey]
  by_cases q : p < 0
  · rw [if_pos q]
  · rcases h with h | h
    · exact absurd h q
    · rw [if_neg q, if_pos (show (64 : Int32) ≤ p from h)]
theorem isKey5_0 {p : Int32} (h : p < 0 ∨ nI 64 ≤ p) : fX5_isKey p = some 0 := by
  rw [fX5_isKey]
  by_cases q : p < 0
  · rw [if_pos q]
  · rcases h with h | h
    · exact absurd h q
    · rw [if_neg q, if_pos (show (64 : Int32) ≤ p from h)]
/-- PAGES -/
theorem sim_pages {n : Nat} {w : Ob} (hn : n ≤ 8) (h1 : x.1 1 = nI n) (ht : t < n) (h : TR t x T y z G) (p2 p3 : Int32) : ∃ (v : Int32) (x' w' : Ob), fX6_pages (nI t) p2 p3 x = some (v, x') ∧ fX5_pages_T (nI t) p2 p3 y w = some (v, w') ∧ x'.1 = (ob_i x 0 0).1 ∧ (∀ d, d ∉ [24, 25] → x'.2 d = x.2 d) := by
  have ht8 : t < 8 := by omega
  have h1' : (ob_i x 0 0).1 1 = nI n := h1
  have s' : Sim t (ob_i x 0 0) y G := h.1.fr (is := [0]) (cs := []) (s := t) (Fr.i _ _ _ _ (by decide)) (by decide) (by decide) (by decide) (by decide) (by decide) (by decide)
  by_cases q1 : p2 < 1
  · exact ⟨-1, ob_i x 0 0, w, by rw [fX6_pages, px_let, isTree_1 hn h1' ht, Option.bind_some, if_neg (by decide), if_pos q1], by rw [fX5_pages_T, if_pos q1], rfl, fun _ _ => rfl⟩
  by_cases q2 : 16 < p2
  · exact ⟨-1, ob_i x 0 0, w, by rw [fX6_pages, px_let, isTree_1 hn h1' ht, Option.bind_some, if_neg (by decide), if_neg q1, if_pos q2], by rw [fX5_pages_T, if_neg q1, if_pos q2], rfl, fun _ _ => rfl⟩
  obtain ⟨b, b1, b2, b3⟩ : ∃ b, 1 ≤ b ∧ b ≤ 16 ∧ p2 = nI b := by
    rcases pk_ix p2 (n := 17) (by omega) with e | e | ⟨j, e1, e2⟩
    · exact absurd (Int32.lt_trans e (by decide : (0 : Int32) < 1)) q1
    · exact absurd (Int32.lt_of_lt_of_le (by decide : (16 : Int32) < nI 17) e) q2
    · refine ⟨j, ?_, by omega, e2⟩
      rcases Nat.eq_zero_or_pos j with w | w
      · exfalso; apply q1; rw [e2, w]; decide
      · exact w
  subst b3
  have pre : fX6_pages (nI t) (nI b) p3 x = Option.bind (fX6_isKey p3) (fun q25 => (if q25 = 0 then some ((-1), (ob_i x 0 0)) else ix (((64) * nI t) + p3) 512 (fun j41 => (if ((ob_i x 0 0).2 7 j41) = 0 then some ((-1), (ob_i x 0 0)) else fX6_pages_L50 FU (nI t) (nI b) p3 (0) (ob_i x 0 0))))) := by
    rw [fX6_pages, px_let, isTree_1 hn h1' ht, Option.bind_some, if_neg (by decide), if_neg q1, if_neg q2]
  have prc : fX5_pages_T (nI t) (nI b) p3 y w = Option.bind (fX3_holds p3 y) (fun q29 => (if q29 = 0 then some ((-1), w) else Option.bind (fX1_countOnWay (nI b) p3 w y) (fun q48 => some (q48.1, q48.2)))) := by
    rw [fX5_pages_T, if_neg q1, if_neg q2]
  have out : (p3 < 0 ∨ nI 64 ≤ p3) → ∃ (v : Int32) (x' w' : Ob), fX6_pages (nI t) (nI b) p3 x = some (v, x') ∧ fX5_pages_T (nI t) (nI b) p3 y w = some (v, w') ∧ x'.1 = (ob_i x 0 0).1 ∧ (∀ d, d ∉ [24, 25] → x'.2 d = x.2 d) := fun e => ⟨-1, ob_i x 0 0, w, by rw [pre, isKey6_0 e]; rfl, by rw [prc, holds_out e]; rfl, rfl, fun _ _ => rfl⟩
  rcases pk_ix p3 (n := 64) (by omega) with e | e | ⟨key, k1, k2⟩
  · exact out (Or.inl e)
  · exact out (Or.inr e)
  · subst k2
    have in7 := s'.isIn k1
    cases hI : gI G key with
    | false =>
      rw [hI, if_neg (by decide)] at in7
      refine ⟨-1, ob_i x 0 0, w, ?_, ?_, rfl, fun _ _ => rfl⟩
      · rw [pre, isKey6_1 k1, Option.bind_some, if_neg (by decide), ix6 ht8 k1, in7, if_pos rfl]
      · rw [prc, h.1.holds k1, hI]; rfl
    | true =>
      rw [hI, if_pos rfl] at in7
      obtain ⟨x1, c1, c2, c3, c4⟩ := pg_50 (t := t) (b := b) (key := key) 64 0 FU (ob_i x 0 0) (by omega) fu64 (fun k hk => by omega)
      obtain ⟨r, r1, r2, r3, r4⟩ := s'.1.rtI hI
      have hr : onWay G key r := ⟨r2, by omega, by omega⟩
      have M1 : RepM x1 t (gL G) (gR G) (gU G) (gr G) (gI G) := by
        obtain ⟨b1, b2, b3, b4, b5⟩ := s'.2.2.2.2
        refine ⟨fun k hk => ?_, fun k hk => ?_, fun k hk => ?_, fun k hk => ?_, ?_⟩
        · show x1.2 7 _ = _; rw [c4 7 (by decide)]; exact b1 k hk
        · show x1.2 5 _ = _; rw [c4 5 (by decide)]; exact b2 k hk
        · show x1.2 6 _ = _; rw [c4 6 (by decide)]; exact b3 k hk
        · show x1.2 4 _ = _; rw [c4 4 (by decide)]; exact b4 k hk
        · rw [c4 3 (by decide)]; exact b5
      have w64 : wid G r = 64 := by unfold wid; rw [r3, r4]
      obtain ⟨v, x', p', d1, d2, d3, d4⟩ := pg_L (b := b) s'.1 s'.2.1 s'.2.2.2.1 ht8 b1 b2 hI 64 r 0 FU FU x1 w hr (by omega) (by decide) (by decide) (by omega) M1 (fun c hc _ => by rw [c2 c (s'.1.1 c hc.1).1]; exact m1_lt)
      refine ⟨v, x', p', ?_, ?_, by rw [d3, c3], fun d hd => by rw [d4 d hd, c4 d (fun e => hd (by rw [e]; decide))]; rfl⟩
      · rw [pre, isKey6_1 k1, Option.bind_some, if_neg (by decide), ix6 ht8 k1, in7, if_neg (by decide)]
        show fX6_pages_L50 FU (nI t) (nI b) (nI key) (nI 0) _ = _
        rw [c1, fX6_pages_J71, ix_nI ht8 (by decide), px_let, M1.2.2.2.2, r1, enc_s]; exact d1
      · have hh : fX3_holds (nI key) y = some 1 := by rw [h.1.holds k1, hI]; rfl
        rw [prc, hh, Option.bind_some, if_neg (by decide), fX1_countOnWay, px_let, h.1.2.2.2.1.2.2.2.2.1, r1, enc_s]
        show Option.bind (fX1_countOnWay_L9 FU (nI b) (nI key) (nI r) (nI (0 + 1)) w y) _ = _
        rw [d2]; rfl
end PG
