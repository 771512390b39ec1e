def ps (s : Bool) (key a : Nat) : Option Nat := if s = true then (if key + a < 64 then some (key + a) else none) else (if a ≤ key then some (key - a) else none)
def sd (s : Bool) : Int32 := if s = true then 1 else -1
theorem sd_l : ∀ key, key < 64 → ∀ a, a < 65 → (a ≤ key → nI key + (-1) * nI a = nI (key - a)) ∧ (¬ a ≤ key → nI key + (-1) * nI a < 0) := by decide +kernel
theorem sd_r : ∀ key, key < 64 → ∀ a, a < 65 → (key + a < 64 → nI key + 1 * nI a = nI (key + a)) ∧ (¬ key + a < 64 → 64 ≤ nI key + 1 * nI a) := by decide +kernel
theorem sd_s : ∀ a, a < 65 → (-1) * nI a + (-1) = (-1) * nI (a + 1) ∧ 1 * nI a + 1 = 1 * nI (a + 1) := by decide +kernel
theorem ps_some {s : Bool} {key a k : Nat} (hk : key < 64) (ha : a < 65) (h : ps s key a = some k) : nI key + sd s * nI a = nI k ∧ k < 64 := by
  unfold ps at h; unfold sd
  cases s with
  | true =>
    rw [if_pos rfl] at h ⊢
    by_cases q : key + a < 64
    · rw [if_pos q] at h; cases h; exact ⟨(sd_r key hk a ha).1 q, q⟩
    · rw [if_neg q] at h; cases h
  | false =>
    rw [if_neg (by decide)] at h ⊢
    by_cases q : a ≤ key
    · rw [if_pos q] at h; cases h; exact ⟨(sd_l key hk a ha).1 q, by omega⟩
    · rw [if_neg q] at h; cases h
theorem ps_none {s : Bool} {key a : Nat} (hk : key < 64) (ha : a < 65) (h : ps s key a = none) : nI key + sd s * nI a < 0 ∨ 64 ≤ nI key + sd s * nI a := by
  unfold ps at h; unfold sd
  cases s with
  | true =>
    rw [if_pos rfl] at h ⊢
    by_cases q : key + a < 64
    · rw [if_pos q] at h; cases h
    · exact Or.inr ((sd_r key hk a ha).2 q)
  | false =>
    rw [if_neg (by decide)] at h ⊢
    by_cases q : a ≤ key
    · rw [if_pos q] at h; cases h
    · exact Or.inl ((sd_l key hk a ha).2 q)
theorem ps_step {s : Bool} {key a : Nat} (ha : a < 65) : (nI key + sd s * nI a) + sd s = nI key + sd s * nI (a + 1) := by
  rw [Int32.add_assoc]
  cases s with
  | true => rw [show sd true = 1 from rfl, (sd_s a ha).2]
  | false => rw [show sd false = -1 from rfl, (sd_s a ha).1]
theorem ps_mono {s : Bool} {key a a' : Nat} (h : ps s key a = none) (hl : a ≤ a') : ps s key a' = none := by
  unfold ps at h ⊢
  cases s with
  | true =>
    rw [if_pos rfl] at h ⊢
    by_cases q : key + a < 64
    · rw [if_pos q] at h; cases h
    · rw [if_neg (by omega)]
  | false =>
    rw [if_neg (by decide)] at h ⊢
    by_cases q : a ≤ key
    · rw [if_pos q] at h; cases h
    · rw [if_neg (by omega)]
theorem ps_ne {s : Bool} {key a k : Nat} (ha : 1 ≤ a) (h : ps s key a = some k) : k ≠ key := by
  unfold ps at h
  cases s with
  | true =>
    rw [if_pos rfl] at h
    by_cases q : key + a < 64
    · rw [if_pos q] at h; cases h; omega
    · rw [if_neg q] at h; cases h
  | false =>
    rw [if_neg (by decide)] at h
    by_cases q : a ≤ key
    · rw [if_pos q] at h; cases h; omega
    · rw [if_neg q] at h; cases h
theorem ps_side {s : Bool} {key a k : Nat} (ha : 1 ≤ a) (h : ps s key a = some k) : (s = true ∧ k = key + a) ∨ (s = false ∧ k + a = key) := by
  unfold ps at h
  cases s with
  | true =>
    rw [if_pos rfl] at h
    by_cases q : key + a < 64
    · rw [if_pos q] at h; cases h; exact Or.inl ⟨rfl, rfl⟩
    · rw [if_neg q] at h; cases h
  | false =>
    rw [if_neg (by decide)] at h
    by_cases q : a ≤ key
    · rw [if_pos q] at h; cases h; exact Or.inr ⟨rfl, by omega⟩
    · rw [if_neg q] at h; cases h
theorem ps_inj {s : Bool} {key a a' k : Nat} (h : ps s key a = some k) (h' : ps s key a' = some k) (ha : 1 ≤ a) (ha' : 1 ≤ a') : a = a' := by
  rcases ps_side ha h with ⟨e, q⟩ | ⟨e, q⟩ <;> rcases ps_side ha' h' with ⟨e', q'⟩ | ⟨e', q'⟩
  · omega
  · rw [e] at e'; cases e'
  · rw [e] at e'; cases e'
  · omega
theorem ps_64 (s : Bool) {key : Nat} (hk : key < 64) : ps s key 64 = none := by
  unfold ps
  cases s with
  | true => rw [if_pos rfl, if_neg (by omega)]
  | false => rw [if_neg (by decide), if_neg (by omega)]
theorem m1_le {v : Int32} (h : ¬ v < 0) : (-1 : Int32) ≤ v := Int32.le_trans (Int32.le_of_lt m1_lt) (Int32.not_lt.mp h)
theorem at_out {n : Nat} {p : Int32} {f : Nat → Int32} (h : p < 0 ∨ nI n ≤ p) : fX5_at n p f = some (-1) := by
  rw [fX5_at]
  by_cases q : p < 0
  · rw [if_pos q]
  · rcases h with h | h
    · exact absurd h q
    · rw [if_neg q, if_pos h]
section SW
variable {key : Nat} {s : Bool} {mo : Int32}
theorem tw_tail (hk : key < 64) : ∀ (m a n c : Nat) (f : Nat → Int32) (bar : Int32), m + a = 64 → m < n → ¬ bar < 0 → ps s key a = none → fX2_touchesToSide_L13 64 n (nI key) (sd s) mo (nI c) bar (nI a) f = some (nI c, f) := by
  intro m
  induction m with
  | zero =>
    intro a n c f bar h1 h2 h3 h4
    obtain ⟨n, rfl⟩ := Nat.exists_eq_succ_of_ne_zero (by omega : n ≠ 0)
    rw [fX2_touchesToSide_L13, if_pos (ge64 (by omega) (by omega))]
  | succ m ih =>
    intro a n c f bar h1 h2 h3 h4
    obtain ⟨n, rfl⟩ := Nat.exists_eq_succ_of_ne_zero (by omega : n ≠ 0)
    rw [fX2_touchesToSide_L13, if_neg (st64 (by omega)), px_let, at_out (ps_none hk (by omega) h4), Option.bind_some, if_pos (m1_le h3), fX2_touchesToSide_J57, px_let, nI_1, ih (a + 1) n c f bar (by omega) (by omega) h3 (ps_mono h4 (by omega))]
def Jv (key : Nat) (mo : Int32) (x : Ob) (f : Nat → Int32) : Prop := ∀ k, k < 64 → (x.2 23 k = 0 ∨ x.2 23 k = 1) ∧ f k = if x.2 23 k = 1 ∧ k ≠ key then mo else x.2 22 k
theorem tw (hk : key < 64) : ∀ (m a n1 n2 c : Nat) (x : Ob) (f : Nat → Int32) (bar : Int32), m + a = 64 → 1 ≤ a → m < n1 → m < n2 → ¬ bar < 0 → (∀ k, k < 64 → ¬ x.2 22 k < 0) → Jv key mo x f → (∀ a', a ≤ a' → ∀ k, ps s key a' = some k → x.2 23 k = 0) →
    ∃ (c' : Nat) (x' : Ob) (f' : Nat → Int32), fX6_touches_L15 n1 (sd s) (nI c) bar (nI key + sd s * nI a) x = some (nI c', x') ∧ fX2_touchesToSide_L13 64 n2 (nI key) (sd s) mo (nI c) bar (nI a) f = some (nI c', f') ∧ Jv key mo x' f' ∧ x'.1 = x.1 ∧ (∀ d, d ≠ 23 → x'.2 d = x.2 d) ∧ (∀ k, (∀ a', a ≤ a' → ps s key a' ≠ some k) → x'.2 23 k = x.2 23 k) := by
  intro m
  induction m with
  | zero =>
    intro a n1 n2 c x f bar h1 ha h2 h3 hb h22 hJ hun
    obtain ⟨n1, rfl⟩ := Nat.exists_eq_succ_of_ne_zero (by omega : n1 ≠ 0)
    obtain ⟨n2, rfl⟩ := Nat.exists_eq_succ_of_ne_zero (by omega : n2 ≠ 0)
    have e : a = 64 := by omega
    have hn : ps s key a = none := by rw [e]; exact ps_64 s hk
    refine ⟨c, x, f, ?_, tw_tail hk 0 a _ c f bar (by omega) (by omega) hb hn, hJ, rfl, fun _ _ => rfl, fun _ _ => rfl⟩
    rw [fX6_touches_L15]
    by_cases q : nI key + sd s * nI a < 0
    · rw [if_pos q]
    · rcases ps_none hk (by omega) hn with w | w
      · exact absurd w q
      · rw [if_neg q, if_pos w]
  | succ m ih =>
    intro a n1 n2 c x f bar h1 ha h2 h3 hb h22 hJ hun
    cases hp : ps s key a with
    | none =>
      obtain ⟨n1, rfl⟩ := Nat.exists_eq_succ_of_ne_zero (by omega : n1 ≠ 0)
      refine ⟨c, x, f, ?_, tw_tail hk (m + 1) a _ c f bar (by omega) (by omega) hb hp, hJ, rfl, fun _ _ => rfl, fun _ _ => rfl⟩
      rw [fX6_touches_L15]
      by_cases q : nI key + sd s * nI a < 0
      · rw [if_pos q]
      · rcases ps_none hk (by omega) hp with w | w
        · exact absurd w q
        · rw [if_neg q, if_pos w]
    | some k =>
      obtain ⟨n1, rfl⟩ := Nat.exists_eq_succ_of_ne_zero (by omega : n1 ≠ 0)
      obtain ⟨n2, rfl⟩ := Nat.exists_eq_succ_of_ne_zero (by omega : n2 ≠ 0)
      obtain ⟨e1, hk64⟩ := ps_some hk (by omega) hp
      have hne := ps_ne ha hp
      have hu := hun a (Nat.le_refl _) k hp
      have fk : f k = x.2 22 k := by
        rw [(hJ k hk64).2, if_neg (fun q => by rw [hu] at q; exact absurd q.1 (by decide))]
      have st := ps_step (s := s) (key := key) (a := a) (by omega)
      rw [e1] at st
      have hx : ∀ (K : Nat → Option (Int32 × Ob)), ix (nI k) 64 K = K k := fun K => ix_nI hk64 (by decide)
      by_cases q : x.2 22 k ≤ bar
      · obtain ⟨c', x', f', b1, b2, b3, b4, b5, b6⟩ := ih (a + 1) n1 n2 c x f bar (by omega) (by omega) (by omega) (by omega) hb h22 hJ (fun a' h => hun a' (by omega))
        refine ⟨c', x', f', ?_, ?_, b3, b4, b5, fun j hj => b6 j (fun a' h => hj a' (by omega))⟩
        · rw [fX6_touches_L15, e1, if_neg (nI_pos (by omega)), if_neg (st64 hk64), hx, if_pos q, fX6_touches_J59, px_let, st, b1]
        · rw [fX2_touchesToSide_L13, if_neg (st64 (by omega)), px_let, e1, at_in hk64 (by decide), Option.bind_some, fk, if_pos q, fX2_touchesToSide_J57, px_let, nI_1, b2]
      · have J' : Jv key mo (ob_a x 23 k 1) (upd f k mo) := by
          intro j hj
          rw [ar_a, ar_n _ _ _ (by decide), upd_at, upd_at]
          by_cases e : j = k
          · rw [if_pos e, if_pos e]
            exact ⟨Or.inr rfl, by rw [if_pos ⟨rfl, by rw [e]; exact hne⟩]⟩
          · rw [if_neg e, if_neg e]; exact hJ j hj
        obtain ⟨c', x', f', b1, b2, b3, b4, b5, b6⟩ := ih (a + 1) n1 n2 (c + 1) (ob_a x 23 k 1) (upd f k mo) (x.2 22 k) (by omega) (by omega) (by omega) (by omega) (h22 k hk64) (by rw [ar_n _ _ _ (by decide)]; exact h22) J' (fun a' h j hj => by
          rw [ar_a, upd_at, if_neg (fun e => by rw [e] at hj; have := ps_inj hj hp (by omega) ha; omega)]
          exact hun a' (by omega) j hj)
        refine ⟨c', x', f', ?_, ?_, b3, b4, fun d hd => by rw [b5 d hd, ar_n _ _ _ hd], fun j hj => ?_⟩
        · rw [fX6_touches_L15, e1, if_neg (nI_pos (by omega)), if_neg (st64 hk64), hx, if_neg q, hx, px_let, hx, px_let, px_let, nar1, nI_1, fX6_touches_J59, px_let, st, b1]
        · rw [fX2_touchesToSide_L13, if_neg (st64 (by omega)), px_let, e1, at_in hk64 (by decide), Option.bind_some, fk, if_neg q, px_let, nI_1, put_in hk64 (by decide), Option.bind_some, fX2_touchesToSide_J57, px_let, nI_1, b2]
        · rw [b6 j (fun a' h => hj a' (by omega)), ar_a, upd_at, if_neg (fun e => hj a (Nat.le_refl _) (by rw [e]; exact hp))]
theorem tw_full (hk : key < 64) (x : Ob) (f : Nat → Int32) (h22 : ∀ k, k < 64 → ¬ x.2 22 k < 0) (hJ : Jv key mo x f) (hun : ∀ a', 1 ≤ a' → ∀ k, ps s key a' = some k → x.2 23 k = 0) :
    ∃ (c' : Nat) (x' : Ob) (f' : Nat → Int32), fX6_touches (nI key) (sd s) x = some (nI c', x') ∧ fX2_touchesToSide 64 (nI key) (sd s) mo f = some (nI c', f') ∧ Jv key mo x' f' ∧ x'.1 = x.1 ∧ (∀ d, d ≠ 23 → x'.2 d = x.2 d) ∧ (∀ k, (∀ a', 1 ≤ a' → ps s key a' ≠ some k) → x'.2 23 k = x.2 23 k) := by
  obtain ⟨c', x', f', b1, b2, b3⟩ := tw (s := s) (mo := mo) hk 63 1 FU FU 0 x f (x.2 22 key) (by omega) (by omega) (by decide) (by decide) (h22 key hk) h22 hJ hun
  have fk : f key = x.2 22 key := by rw [(hJ key hk).2, if_neg (fun q => q.2 rfl)]
  refine ⟨c', x', f', ?_, ?_, b3⟩
  · rw [fX6_touches, ix_nI hk (by decide), px_let, px_let, ← b1]
    have : sd s * nI 1 = sd s := by cases s <;> decide
    rw [this]; rfl
  · rw [fX2_touchesToSide, at_in hk (by decide), Option.bind_some, fk, ← b2]; rfl
theorem sw_66 {k40 : Int32 → Int32 → Int32 → Ob → Option (Int32 × Ob)} {v1 v2 v3 : Int32} (hk : key < 64) : ∀ (m j n : Nat) (x : Ob), m + j = 64 → m < n → (∀ k, k < j → x.2 23 k = if k = key then 1 else 0) →
    ∃ x', fX6_sweep_L66 k40 n v1 v2 v3 (nI key) (nI j) x = fX6_sweep_J98 k40 v1 v2 v3 (nI key) x' ∧ (∀ k, k < 64 → x'.2 23 k = if k = key then 1 else 0) ∧ x'.1 = x.1 ∧ (∀ d, d ≠ 23 → x'.2 d = x.2 d) := by
  intro m
  induction m with
  | zero =>
    intro j n x h1 h2 h3
    obtain ⟨n, rfl⟩ := Nat.exists_eq_succ_of_ne_zero (by omega : n ≠ 0)
    exact ⟨x, by rw [fX6_sweep_L66, if_pos (ge64 (by omega) (by omega))], fun k hk => h3 k (by omega), rfl, fun _ _ => rfl⟩
  | succ m ih =>
    intro j n x h1 h2 h3
    obtain ⟨n, rfl⟩ := Nat.exists_eq_succ_of_ne_zero (by omega : n ≠ 0)
    have hj : j < 64 := by omega
    obtain ⟨x', b1, b2, b3, b4⟩ := ih (j + 1) n (ob_a x 23 j (if j = key then 1 else 0)) (by omega) (by omega) (fun k hk => by
      rw [ar_a, upd_at]
      by_cases e : k = j
      · rw [if_pos e, e]
      · rw [if_neg e]; exact h3 k (by omega))
    refine ⟨x', ?_, b2, b3, fun d hd => by rw [b4 d hd, ar_n _ _ _ hd]⟩
    rw [fX6_sweep_L66, if_neg (st64 hj)]
    by_cases e : j = key
    · rw [if_pos e] at b1
      rw [if_pos (by rw [e]), fX6_sweep_J91, ix_nI hj (by decide), px_let, px_let, nar1, nI_1, b1]
    · rw [if_neg e] at b1
      rw [if_neg (fun q => e ((nI_eq (by omega) (by omega)).mp q)), fX6_sweep_J91, ix_nI hj (by decide), px_let, px_let, nar0, nI_1, b1]
theorem sw_121 {k40 : Int32 → Int32 → Int32 → Ob → Option (Int32 × Ob)} {v1 v2 v3 : Int32} {x0 : Ob} : ∀ (m j n : Nat) (x : Ob), m + j = 64 → m < n → (∀ k, x.2 22 k = if k < j ∧ ¬ x0.2 23 k = 0 then v3 + 1 else x0.2 22 k) → x.1 = x0.1 → (∀ d, d ≠ 22 → x.2 d = x0.2 d) →
    ∃ x', fX6_sweep_L121 k40 n v1 v2 v3 (nI j) x = fX6_sweep_J164 k40 v1 v2 v3 x' ∧ (∀ k, k < 64 → x'.2 22 k = if x0.2 23 k = 0 then x0.2 22 k else v3 + 1) ∧ x'.1 = x0.1 ∧ (∀ d, d ≠ 22 → x'.2 d = x0.2 d) := by
  intro m
  induction m with
  | zero =>
    intro j n x h1 h2 h3 h4 h5
    obtain ⟨n, rfl⟩ := Nat.exists_eq_succ_of_ne_zero (by omega : n ≠ 0)
    refine ⟨x, by rw [fX6_sweep_L121, if_pos (ge64 (by omega) (by omega))], fun k hk => ?_, h4, h5⟩
    rw [h3 k]
    by_cases q : x0.2 23 k = 0
    · rw [if_pos q, if_neg (fun w => w.2 q)]
    · rw [if_neg q, if_pos ⟨by omega, q⟩]
  | succ m ih =>
    intro j n x h1 h2 h3 h4 h5
    obtain ⟨n, rfl⟩ := Nat.exists_eq_succ_of_ne_zero (by omega : n ≠ 0)
    have hj : j < 64 := by omega
    have hx : ∀ (K : Nat → Option (Int32 × Ob)), ix (nI j) 64 K = K j := fun K => ix_nI hj (by decide)
    have e23 : x.2 23 j = x0.2 23 j := by rw [h5 23 (by decide)]
    have e22 : x.2 22 j = x0.2 22 j := by rw [h3 j, if_neg (fun w => by omega)]
    obtain ⟨x', b1, b2, b3, b4⟩ := ih (j + 1) n (ob_a x 22 j (if x0.2 23 j = 0 then x0.2 22 j else v3 + 1)) (by omega) (by omega) (fun k => by
      rw [ar_a, upd_at]
      by_cases e : k = j
      · rw [if_pos e, e]
        by_cases q : x0.2 23 j = 0
        · rw [if_pos q, if_neg (fun w => w.2 q)]
        · rw [if_neg q, if_pos ⟨by omega, q⟩]
      · rw [if_neg e, h3 k]
        by_cases q : k < j ∧ ¬ x0.2 23 k = 0
        · rw [if_pos q, if_pos ⟨by omega, q.2⟩]
        · rw [if_neg q, if_neg (fun w => q ⟨by omega, w.2⟩)]) h4 (fun d hd => by rw [ar_n _ _ _ hd, h5 d hd])
    refine ⟨x', ?_, b2, b3, b4⟩
    rw [fX6_sweep_L121, if_neg (st64 hj), hx, e23]
    by_cases q : x0.2 23 j = 0
    · rw [if_pos q] at b1
      rw [if_pos q, hx, e22, fX6_sweep_J157, hx, px_let, px_let, nI_1, b1]
    · rw [if_neg q] at b1
      rw [if_neg q, fX6_sweep_J157, hx, px_let, px_let, nI_1, b1]
end SW
section SW2
variable {t : Nat} {x y T z : Ob} {G : Gh} {r : Nat}
set_option maxHeartbeats 1000000 in
theorem sw_40 (ht : t < 8) (hr : r ≤ 100) (hz : z.1 1 = nI r) (h0 : ∀ i, i < r → z.2 0 i = nI (ky z i)) : ∀ (m i n1 n2 c : Nat) (x : Ob) (f : Nat → Int32), m + i = r → m < n1 → m < n2 → x.2 12 t = nI r → (∀ i, i < r → x.2 13 (100 * t + i) = nI (ky z i)) → (∀ k, k < 64 → x.2 22 k = f k ∧ ¬ x.2 22 k < 0) →
    ∃ (v : Int32) (x' : Ob) (f' : Nat → Int32), fX6_sweep_L40 n1 (nI t) (nI c) (nI i) x = some (v, x') ∧ fX2_touches_L9 64 n2 (nI c) (nI i) z f = some (v, f') ∧ x'.1 = x.1 ∧ (∀ d, d ∉ [22, 23] → x'.2 d = x.2 d) := by
  intro m
  induction m with
  | zero =>
    intro i n1 n2 c x f h1 h2 h3 h12 h13 hf
    obtain ⟨n1, rfl⟩ := Nat.exists_eq_succ_of_ne_zero (by omega : n1 ≠ 0)
    obtain ⟨n2, rfl⟩ := Nat.exists_eq_succ_of_ne_zero (by omega : n2 ≠ 0)
    exact ⟨nI c, x, f, by rw [fX6_sweep_L40, ix_nI ht (by decide), h12, if_pos (nI_le (by omega) (by omega))], by rw [fX2_touches_L9, hz, if_pos (nI_le (by omega) (by omega))], rfl, fun _ _ => rfl⟩
  | succ m ih =>
    intro i n1 n2 c x f h1 h2 h3 h12 h13 hf
    obtain ⟨n1, rfl⟩ := Nat.exists_eq_succ_of_ne_zero (by omega : n1 ≠ 0)
    obtain ⟨n2, rfl⟩ := Nat.exists_eq_succ_of_ne_zero (by omega : n2 ≠ 0)
    have hi : i < r := by omega
    have hk := ky_lt z i
    have ka : fX2_keyAt (nI i) z = some (nI (ky z i)) := by rw [fX2_keyAt, at_in (by omega) (by decide), Option.bind_some, h0 i hi]
    obtain ⟨x1, a1, a2, a3, a4⟩ := sw_66 (k40 := fX6_sweep_L40 n1) (v1 := nI t) (v2 := nI c) (v3 := nI i) hk 64 0 FU x (by omega) fu64 (fun k hk => by omega)
    have J1 : Jv (ky z i) (nI (i + 1)) x1 f := by
      intro k hk'
      rw [a2 k hk', a4 22 (by decide)]
      by_cases e : k = ky z i
      · rw [if_pos e, if_neg (fun q => q.2 e)]; exact ⟨Or.inr rfl, (hf k hk').1.symm⟩
      · rw [if_neg e, if_neg (fun q => absurd q.1 (by decide))]; exact ⟨Or.inl rfl, (hf k hk').1.symm⟩
    have n1' : ∀ k, k < 64 → ¬ x1.2 22 k < 0 := fun k hk' => by rw [a4 22 (by decide)]; exact (hf k hk').2
    obtain ⟨c1, x2, f2, b1, b2, b3, b4, b5, b6⟩ := tw_full (s := false) hk x1 f n1' J1 (fun a' ha k hp => by
      rw [a2 k (by rcases ps_side ha hp with ⟨e, _⟩ | ⟨_, q⟩; cases e; omega), if_neg (ps_ne ha hp)])
    have u2 : ∀ k, ky z i ≤ k → x2.2 23 k = x1.2 23 k := fun k hk' => b6 k (fun a' ha hp => by rcases ps_side ha hp with ⟨e, _⟩ | ⟨_, q⟩; cases e; omega)
    obtain ⟨c2, x3, f3, d1, d2, d3, d4, d5, d6⟩ := tw_full (s := true) hk x2 f2 (fun k hk' => by rw [b5 22 (by decide)]; exact n1' k hk') b3 (fun a' ha k hp => by
      rcases ps_side ha hp with ⟨_, q⟩ | ⟨e, _⟩
      · have hlt := (ps_some hk (a := a') (by
          rcases Nat.lt_or_ge a' 65 with w | w
          · exact w
          · rw [ps_mono (ps_64 true hk) (by omega)] at hp; cases hp) hp).2
        rw [u2 k (by omega), a2 k hlt, if_neg (ps_ne ha hp)]
      · cases e)
    have u3 : x3.2 23 (ky z i) = 1 := by
      rw [d6 (ky z i) (fun a' ha hp => ps_ne ha hp rfl), u2 _ (Nat.le_refl _), a2 _ hk, if_pos rfl]
    obtain ⟨x4, g1, g2, g3, g4⟩ := sw_121 (k40 := fX6_sweep_L40 n1) (v1 := nI t) (v2 := nI (c + (1 + c1 + c2))) (v3 := nI i) (x0 := x3) 64 0 FU x3 (by omega) fu64 (fun k => by rw [if_neg (fun q => by omega)]) rfl (fun _ _ => rfl)
    have e22 : x3.2 22 = x.2 22 := by rw [d5 22 (by decide), b5 22 (by decide), a4 22 (by decide)]
    obtain ⟨v, x', f', p1, p2, p3, p4⟩ := ih (i + 1) n1 n2 (c + (1 + c1 + c2)) x4 (upd f3 (ky z i) (nI (i + 1))) (by omega) (by omega) (by omega)
      (by rw [g4 12 (by decide), d5 12 (by decide), b5 12 (by decide), a4 12 (by decide)]; exact h12)
      (by rw [g4 13 (by decide), d5 13 (by decide), b5 13 (by decide), a4 13 (by decide)]; exact h13)
      (fun k hk' => by
        rw [g2 k hk', nI_1, upd_at]
        obtain ⟨j1, j2⟩ := d3 k hk'
        by_cases e : k = ky z i
        · rw [if_pos e, if_neg (by rw [e, u3]; decide)]; exact ⟨rfl, nI_pos (by omega)⟩
        · rw [if_neg e, j2]
          rcases j1 with j | j
          · rw [if_pos j, if_neg (fun q => by rw [j] at q; exact absurd q.1 (by decide)), e22]; exact ⟨rfl, (hf k hk').2⟩
          · rw [if_neg (by rw [j]; decide), if_pos ⟨j, e⟩]; exact ⟨rfl, nI_pos (by omega)⟩)
    refine ⟨v, x', f', ?_, ?_, by rw [p3, g3, d4, b4, a3], fun d hd => ?_⟩
    · rw [fX6_sweep_L40, ix_nI ht (by decide), h12, if_neg (nI_ge hi (by omega)), i100, ix_nI (by omega) (by decide), px_let, h13 i hi]
      show fX6_sweep_L66 (fX6_sweep_L40 n1) FU (nI t) (nI c) (nI i) (nI (ky z i)) (nI 0) x = _
      rw [a1, fX6_sweep_J98]
      show Option.bind (fX6_touches (nI (ky z i)) (sd false) x1) _ = _
      rw [b1, Option.bind_some]
      show Option.bind (fX6_touches (nI (ky z i)) (sd true) x2) _ = _
      rw [d1, Option.bind_some, px_let]
      show fX6_sweep_L121 (fX6_sweep_L40 n1) FU (nI t) (nI c + ((nI 1 + nI c1) + nI c2)) (nI i) (nI 0) x3 = _
      rw [nI_add, nI_add, nI_add, g1, fX6_sweep_J164, px_let, nI_1, p1]
    · rw [fX2_touches_L9, hz, if_neg (nI_ge hi (by omega)), ka, Option.bind_some, nI_1]
      show Option.bind (fX2_touchesToSide 64 (nI (ky z i)) (sd false) (nI (i + 1)) f) _ = _
      rw [b2, Option.bind_some, px_let]
      show Option.bind (fX2_touchesToSide 64 (nI (ky z i)) (sd true) (nI (i + 1)) f2) _ = _
      rw [d2, Option.bind_some, px_let, put_in hk (by decide), Option.bind_some, px_let]
      show fX2_touches_L9 64 n2 ((nI c + (nI 1 + nI c1)) + nI c2) (nI (i + 1)) z _ = _
      rw [nI_add, nI_add, nI_add, show c + (1 + c1) + c2 = c + (1 + c1 + c2) by omega, p2]
    · have h22 : d ≠ 22 := fun e => hd (by rw [e]; decide)
      have h23 : d ≠ 23 := fun e => hd (by rw [e]; decide)
      rw [p4 d hd, g4 d h22, d5 d h23, b5 d h23, a4 d h23]
theorem sw_17 : ∀ (m j n : Nat) (x : Ob), m + j = 64 → m < n → (∀ k, k < j → x.2 22 k = 0) → ∃ x', fX6_sweep_L17 n (nI t) (nI j) x = fX6_sweep_J36 (nI t) x' ∧ (∀ k, k < 64 → x'.2 22 k = 0) ∧ x'.1 = x.1 ∧ (∀ d, d ≠ 22 → x'.2 d = x.2 d) := by
  intro m
  induction m with
  | zero =>
    intro j n x h1 h2 h3
    obtain ⟨n, rfl⟩ := Nat.exists_eq_succ_of_ne_zero (by omega : n ≠ 0)
    exact ⟨x, by rw [fX6_sweep_L17, if_pos (ge64 (by omega) (by omega))], fun k hk => h3 k (by omega), rfl, fun _ _ => rfl⟩
  | succ m ih =>
    intro j n x h1 h2 h3
    obtain ⟨n, rfl⟩ := Nat.exists_eq_succ_of_ne_zero (by omega : n ≠ 0)
    have hj : j < 64 := by omega
    obtain ⟨x', b1, b2, b3, b4⟩ := ih (j + 1) n (ob_a x 22 j 0) (by omega) (by omega) (fun k hk => by
      rw [ar_a, upd_at]
      by_cases e : k = j
      · rw [if_pos e]
      · rw [if_neg e]; exact h3 k (by omega))
    refine ⟨x', ?_, b2, b3, fun d hd => by rw [b4 d hd, ar_n _ _ _ hd]⟩
    rw [fX6_sweep_L17, if_neg (st64 hj), ix_nI hj (by decide), px_let, px_let, nI_1, b1]
/-- SWEEP -/
theorem sim_sweep {n : Nat} {w : Ob} (hn : n ≤ 8) (h1 : x.1 1 = nI n) (ht : t < n) (h : TR t x T y z G) : ∃ (v : Int32) (x' : Ob) (f : Nat → Int32), fX6_sweep (nI t) x = some (v, x') ∧ fX5_sweep_T (nI t) z w = some (v, ob_f w 4 f) ∧ x'.1 = (ob_i x 0 0).1 ∧ (∀ d, d ∉ [22, 23] → x'.2 d = x.2 d) := by
  obtain ⟨r, r1, r2, r3, r4⟩ := h.2.2.2.2.2.1.keys
  have h1' : (ob_i x 0 0).1 1 = nI n := h1
  obtain ⟨x1, a1, a2, a3, a4⟩ := sw_17 (t := t) 64 0 FU (ob_i x 0 0) (by omega) fu64 (fun k hk => by omega)
  obtain ⟨f1, g1, g2⟩ := fill_ok 64 (by omega) 0 (w.2 4)
  obtain ⟨v, x', f', b1, b2, b3, b4⟩ := sw_40 (t := t) (z := z) (by omega) r1 r2 (fun i hi => (r4 i hi).1) r 0 FU FU 0 x1 f1 (by omega) (by show r < 5000; omega) (by show r < 5000; omega) (by rw [a4 12 (by decide)]; exact r3) (by rw [a4 13 (by decide)]; exact fun i hi => (r4 i hi).2) (fun k hk => ⟨by rw [a2 k hk, g2 k hk], by rw [a2 k hk]; decide⟩)
  refine ⟨v, x', f', ?_, ?_, by rw [b3, a3], fun d hd => by rw [b4 d hd, a4 d (fun e => hd (by rw [e]; decide))]; rfl⟩
  · rw [fX6_sweep, px_let, isTree_1 hn h1' ht, Option.bind_some, if_neg (by decide)]
    show fX6_sweep_L17 FU (nI t) (nI 0) _ = _
    rw [a1, fX6_sweep_J36]; exact b1
  · rw [fX5_sweep_T, fX2_touches, g1, Option.bind_some]
    show Option.bind (fX2_touches_L9 64 FU (nI 0) (nI 0) z f1) _ = _
    rw [b2]; rfl
end SW2
