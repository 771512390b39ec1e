/-- the key of the i-th ask of a Row -/
def ky (z : Ob) (i : Nat) : Nat := (z.2 0 i).toNatClampNeg % 64
theorem ky_lt (z : Ob) (i : Nat) : ky z i < 64 := Nat.mod_lt _ (by decide)
theorem RowR.keys {t : Nat} {x z : Ob} (h : RowR t x z) : ∃ r : Nat, r ≤ 100 ∧ z.1 1 = nI r ∧ x.2 12 t = nI r ∧ ∀ i, i < r → z.2 0 i = nI (ky z i) ∧ x.2 13 (100 * t + i) = nI (ky z i) := by
  obtain ⟨r, h1, h2, h3, h4⟩ := h
  refine ⟨r, h1, h2, h3, fun i hi => ?_⟩
  obtain ⟨k, a1, a2, a3⟩ := h4 i hi
  have e : ky z i = k := by unfold ky; rw [a2, nI_clamp (by omega), Nat.mod_eq_of_lt a1]
  exact ⟨by rw [e]; exact a2, by rw [e]; exact a3⟩
/-- the half of the latest ask in a span, ahead of ask i -/
def lst (z : Ob) (b sp : Nat) : Nat → Int32
  | 0 => -1
  | i + 1 => if ky z i / 2 ^ (b + 1) = sp then nI (ky z i / 2 ^ b % 2) else lst z b sp i
/-- does ask i change the half of its span -/
def chx (z : Ob) (b sp i : Nat) : Nat := if lst z b sp i = -1 then 0 else if lst z b sp i = nI (ky z i / 2 ^ b % 2) then 0 else 1
def chd (z : Ob) (b sp i : Nat) : Nat := if ky z i / 2 ^ (b + 1) = sp then chx z b sp i else 0
def chg (z : Ob) (b sp : Nat) : Nat → Nat
  | 0 => 0
  | i + 1 => chg z b sp i + chd z b sp i
def clc (z : Ob) (b : Nat) : Nat → Nat
  | 0 => 0
  | i + 1 => clc z b i + chx z b (ky z i / 2 ^ (b + 1)) i
def sme (f : Nat → Nat) : Nat → Nat
  | 0 => 0
  | n + 1 => sme f n + f n
theorem sme_add (f g : Nat → Nat) : ∀ n, sme (fun i => f i + g i) n = sme f n + sme g n := by
  intro n
  induction n with
  | zero => rfl
  | succ n ih => show sme _ n + (f n + g n) = (sme f n + f n) + (sme g n + g n); rw [ih]; omega
theorem sme_zero {f : Nat → Nat} : ∀ n, (∀ i, i < n → f i = 0) → sme f n = 0 := by
  intro n
  induction n with
  | zero => intro _; rfl
  | succ n ih => intro h; show sme f n + f n = 0; rw [ih (fun i hi => h i (by omega)), h n (by omega)]
theorem sme_one {f : Nat → Nat} {s : Nat} : ∀ n, s < n → (∀ i, i ≠ s → f i = 0) → sme f n = f s := by
  intro n
  induction n with
  | zero => intro h; omega
  | succ n ih =>
    intro h h0
    show sme f n + f n = f s
    by_cases q : s = n
    · rw [sme_zero n (fun i hi => h0 i (by omega)), q]; omega
    · rw [ih (by omega) h0, h0 n (Ne.symm q)]; omega
theorem sme_chg (z : Ob) {b N : Nat} (h : ∀ j, ky z j / 2 ^ (b + 1) < N) : ∀ i, sme (fun sp => chg z b sp i) N = clc z b i := by
  intro i
  induction i with
  | zero => exact sme_zero N (fun _ _ => rfl)
  | succ i ih =>
    show sme (fun sp => chg z b sp i + chd z b sp i) N = clc z b i + chx z b (ky z i / 2 ^ (b + 1)) i
    rw [sme_add, ih, sme_one N (h i) (fun s hs => by unfold chd; rw [if_neg (Ne.symm hs)])]
    unfold chd; rw [if_pos rfl]
theorem il_ar : ∀ b, b < 6 → ∀ sp, sp < 33 → ∀ k, k < 64 → ((k / 2 ^ (b + 1) = sp ↔ (¬ k < sp * 2 ^ (b + 1) ∧ ¬ sp * 2 ^ (b + 1) + 2 ^ (b + 1) ≤ k)) ∧ (k / 2 ^ (b + 1) = sp → (k / 2 ^ b % 2 = if sp * 2 ^ (b + 1) + 2 ^ b ≤ k then 1 else 0))) := by decide +kernel
theorem il_sh : ∀ b, b < 6 → ∀ k, k < 64 → ((nI k >>> (nI b &&& 31)) &&& 1) = nI (k / 2 ^ b % 2) ∧ ((nI k >>> (nI b &&& 31)) >>> ((1 : Int32) &&& 31)) = nI (k / 2 ^ (b + 1)) := by decide +kernel
theorem il_pw : ∀ b, b < 6 → 2 ^ (b + 1) ≤ 64 ∧ 2 ^ b ≤ 32 ∧ 2 ^ (b + 1) / 2 = 2 ^ b ∧ 2 ^ (5 - b) * 2 ^ (b + 1) = 64 ∧ 2 ^ (5 - b) ≤ 32 ∧ 0 < 2 ^ (b + 1) := by decide +kernel
theorem il_N : ∀ b, b < 6 → ∀ k, k < 64 → k / 2 ^ (b + 1) < 2 ^ (5 - b) := by decide +kernel
theorem il_N2 : ∀ b, b < 6 → ∀ k, k < 64 → k / 2 ^ (b + 1) < 64 := by decide +kernel
theorem lst_c (z : Ob) (b sp : Nat) : ∀ i, lst z b sp i = -1 ∨ ∃ h : Nat, h < 2 ∧ lst z b sp i = nI h := by
  intro i
  induction i with
  | zero => exact Or.inl rfl
  | succ i ih =>
    show (if ky z i / 2 ^ (b + 1) = sp then nI (ky z i / 2 ^ b % 2) else lst z b sp i) = -1 ∨ ∃ h : Nat, h < 2 ∧ (if ky z i / 2 ^ (b + 1) = sp then nI (ky z i / 2 ^ b % 2) else lst z b sp i) = nI h
    by_cases q : ky z i / 2 ^ (b + 1) = sp
    · rw [if_pos q]; exact Or.inr ⟨_, Nat.mod_lt _ (by decide), rfl⟩
    · rw [if_neg q]; exact ih
section IL
variable {t : Nat} {x y T z : Ob} {G : Gh} {r : Nat}
set_option maxHeartbeats 1000000 in
theorem il_44 (ht : t < 8) (hr : r ≤ 100) (h12 : x.2 12 t = nI r) (h13 : ∀ i, i < r → x.2 13 (100 * t + i) = nI (ky z i)) {b sp : Nat} (hb : b < 6) (hsp : sp < 33) (hs2 : sp * 2 ^ (b + 1) < 64) {k28 : Int32 → Int32 → Int32 → Int32 → Ob → Option (Int32 × Ob)} : ∀ (m i n S : Nat), m + i = r → m < n →
    fX6_interleave_L44 k28 n (nI t) (nI (S + chg z b sp i)) (nI (2 ^ (b + 1))) (nI (sp * 2 ^ (b + 1))) (lst z b sp i) (nI (100 * t + i)) x = fX6_interleave_J139 k28 (nI t) (nI (S + chg z b sp r)) (nI (2 ^ (b + 1))) (nI (sp * 2 ^ (b + 1))) x := by
  obtain ⟨p1, p2, p3, p4, p5, p6⟩ := il_pw b hb
  intro m
  induction m with
  | zero =>
    intro i n S h1 h2
    obtain ⟨n, rfl⟩ := Nat.exists_eq_succ_of_ne_zero (by omega : n ≠ 0)
    have e : i = r := by omega
    subst e
    rw [fX6_interleave_L44, ix_nI ht (by decide), h12, i100, if_pos (nI_le (by omega) (by omega))]
  | succ m ih =>
    intro i n S h1 h2
    obtain ⟨n, rfl⟩ := Nat.exists_eq_succ_of_ne_zero (by omega : n ≠ 0)
    have hi : i < r := by omega
    have hk := ky_lt z i
    have st : ∀ (K : Nat → Option (Int32 × Ob)), ix (nI (100 * t + i)) 800 K = K (100 * t + i) := fun K => ix_nI (by omega) (by decide)
    have ih' := ih (i + 1) n S (by omega) (by omega)
    obtain ⟨ar1, ar2⟩ := il_ar b hb sp hsp (ky z i) hk
    have nx : nI (100 * t + i) + 1 = nI (100 * t + (i + 1)) := nI_1 _
    have h8 : ∀ (K : Nat → Option (Int32 × Ob)), ix (nI t) 8 K = K t := fun K => ix_nI ht (by decide)
    rw [fX6_interleave_L44, h8, h12, i100, if_neg (nI_ge (by omega) (by omega)), st, h13 i hi]
    by_cases q1 : ky z i < sp * 2 ^ (b + 1)
    · have ns : ¬ ky z i / 2 ^ (b + 1) = sp := fun e => (ar1.mp e).1 q1
      rw [if_pos (nI_lt q1 (by omega)), fX6_interleave_J133, px_let, nx, ← ih']
      show _ = fX6_interleave_L44 k28 n (nI t) (nI (S + (chg z b sp i + chd z b sp i))) _ _ (if ky z i / 2 ^ (b + 1) = sp then nI (ky z i / 2 ^ b % 2) else lst z b sp i) _ x
      unfold chd; rw [if_neg ns, if_neg ns, Nat.add_zero (chg z b sp i)]
    · rw [if_neg (nI_nlt (by omega) (by omega)), st, h13 i hi, nI_add]
      by_cases q2 : sp * 2 ^ (b + 1) + 2 ^ (b + 1) ≤ ky z i
      · have ns : ¬ ky z i / 2 ^ (b + 1) = sp := fun e => (ar1.mp e).2 q2
        rw [if_pos (nI_le q2 (by omega)), fX6_interleave_J133, px_let, nx, ← ih']
        show _ = fX6_interleave_L44 k28 n (nI t) (nI (S + (chg z b sp i + chd z b sp i))) _ _ (if ky z i / 2 ^ (b + 1) = sp then nI (ky z i / 2 ^ b % 2) else lst z b sp i) _ x
        unfold chd; rw [if_neg ns, if_neg ns, Nat.add_zero (chg z b sp i)]
      · have hs : ky z i / 2 ^ (b + 1) = sp := ar1.mpr ⟨q1, q2⟩
        have hh := ar2 hs
        have ihs : fX6_interleave_L44 k28 n (nI t) (nI (S + chg z b sp i + chx z b sp i)) (nI (2 ^ (b + 1))) (nI (sp * 2 ^ (b + 1))) (nI (ky z i / 2 ^ b % 2)) (nI (100 * t + (i + 1))) x = fX6_interleave_J139 k28 (nI t) (nI (S + chg z b sp r)) (nI (2 ^ (b + 1))) (nI (sp * 2 ^ (b + 1))) x := by
          rw [← ih']
          show _ = fX6_interleave_L44 k28 n (nI t) (nI (S + (chg z b sp i + chd z b sp i))) _ _ (if ky z i / 2 ^ (b + 1) = sp then nI (ky z i / 2 ^ b % 2) else lst z b sp i) _ x
          unfold chd; rw [if_pos hs, if_pos hs, Nat.add_assoc]
        rw [if_neg (nI_ge (by omega) (by omega)), st, h13 i hi, show nI (2 ^ (b + 1)) / 2 = nI (2 ^ b) by rw [show (2 : Int32) = nI 2 from rfl, pk_div (by omega) (by omega) (by omega), p3], nI_add]
        have J : fX6_interleave_J107 (fX6_interleave_L44 k28 n) (nI t) (nI (S + chg z b sp i)) (nI (2 ^ (b + 1))) (nI (sp * 2 ^ (b + 1))) (lst z b sp i) (nI (100 * t + i)) (nI (ky z i / 2 ^ b % 2)) x = fX6_interleave_J139 k28 (nI t) (nI (S + chg z b sp r)) (nI (2 ^ (b + 1))) (nI (sp * 2 ^ (b + 1))) x := by
          rw [fX6_interleave_J107]
          rcases lst_c z b sp i with c | ⟨h, c1, c2⟩
          · have c0 : chx z b sp i = 0 := by unfold chx; rw [if_pos c]
            rw [c0, Nat.add_zero] at ihs
            rw [c, if_pos m1_lt, fX6_interleave_J126, fX6_interleave_J127, px_let, Int32.add_zero, fX6_interleave_J133, px_let, nx, ihs]
          · have c3 : ¬ lst z b sp i = -1 := by rw [c2]; exact nI_ne_m1 (by omega)
            by_cases w : lst z b sp i = nI (ky z i / 2 ^ b % 2)
            · have c0 : chx z b sp i = 0 := by unfold chx; rw [if_neg c3, if_pos w]
              rw [c0, Nat.add_zero] at ihs
              rw [if_neg (by rw [c2]; exact nI_pos (by omega)), if_pos w, fX6_interleave_J126, fX6_interleave_J127, px_let, Int32.add_zero, fX6_interleave_J133, px_let, nx, ihs]
            · have c0 : chx z b sp i = 1 := by unfold chx; rw [if_neg c3, if_neg w]
              rw [c0] at ihs
              rw [if_neg (by rw [c2]; exact nI_pos (by omega)), if_neg w, fX6_interleave_J127, px_let, nI_1, fX6_interleave_J133, px_let, nx, ihs]
        by_cases q3 : sp * 2 ^ (b + 1) + 2 ^ b ≤ ky z i
        · rw [if_pos q3] at hh
          rw [hh] at J
          rw [if_pos (nI_le q3 (by omega))]; exact J
        · rw [if_neg q3] at hh
          rw [hh] at J
          rw [if_neg (nI_ge (by omega) (by omega))]; exact J
theorem il_28 (ht : t < 8) (hr : r ≤ 100) (h12 : x.2 12 t = nI r) (h13 : ∀ i, i < r → x.2 13 (100 * t + i) = nI (ky z i)) {b : Nat} (hb : b < 6) {k19 : Int32 → Int32 → Int32 → Ob → Option (Int32 × Ob)} : ∀ (m sp n S : Nat), m + sp = 2 ^ (5 - b) → m < n →
    fX6_interleave_L28 k19 n (nI t) (nI (S + sme (fun s => chg z b s r) sp)) (nI (2 ^ (b + 1))) (nI (sp * 2 ^ (b + 1))) x = fX6_interleave_J148 k19 (nI t) (nI (S + sme (fun s => chg z b s r) (2 ^ (5 - b)))) (nI (2 ^ (b + 1))) x := by
  obtain ⟨p1, p2, p3, p4, p5, p6⟩ := il_pw b hb
  intro m
  induction m with
  | zero =>
    intro sp n S h1 h2
    obtain ⟨n, rfl⟩ := Nat.exists_eq_succ_of_ne_zero (by omega : n ≠ 0)
    have e : sp = 2 ^ (5 - b) := by omega
    rw [fX6_interleave_L28, e, p4, if_pos (by decide)]
  | succ m ih =>
    intro sp n S h1 h2
    obtain ⟨n, rfl⟩ := Nat.exists_eq_succ_of_ne_zero (by omega : n ≠ 0)
    have l1 : (sp + 1) * 2 ^ (b + 1) ≤ 2 ^ (5 - b) * 2 ^ (b + 1) := Nat.mul_le_mul_right _ (by omega)
    rw [Nat.add_mul, Nat.one_mul, p4] at l1
    have l2 : sp * 2 ^ (b + 1) < 64 := by omega
    rw [fX6_interleave_L28, if_neg (st64 l2), px_let, show (100 : Int32) * nI t = nI (100 * t + 0) from pk_mul 100 t]
    have q := il_44 (x := x) (z := z) (sp := sp) (k28 := fX6_interleave_L28 k19 n) ht hr h12 h13 hb (by omega) l2 r 0 FU (S + sme (fun s => chg z b s r) sp) (by omega) (by show r < 5000; omega)
    show fX6_interleave_L44 _ FU (nI t) (nI (S + sme (fun s => chg z b s r) sp + chg z b sp 0)) _ _ (lst z b sp 0) _ x = _
    rw [q, fX6_interleave_J139, px_let, nI_add]
    have := ih (sp + 1) n S (by omega) (by omega)
    rw [Nat.add_mul, Nat.one_mul] at this
    rw [← this]
    show _ = fX6_interleave_L28 k19 n (nI t) (nI (S + (sme (fun s => chg z b s r) sp + chg z b sp r))) _ _ x
    rw [Nat.add_assoc]
theorem il_5 (hr : r ≤ 100) (hz : z.1 1 = nI r) (h0 : ∀ i, i < r → z.2 0 i = nI (ky z i)) {b : Nat} (hb : b < 6) : ∀ (m i n : Nat) (f : Nat → Int32), m + i = r → m < n → (∀ s, s < 64 → f s = lst z b s i) →
    ∃ f', fX2_changesInSpans_L5 64 n (nI b) (nI (clc z b i)) (nI i) z f = some (nI (clc z b r), f') := by
  intro m
  induction m with
  | zero =>
    intro i n f h1 h2 h3
    obtain ⟨n, rfl⟩ := Nat.exists_eq_succ_of_ne_zero (by omega : n ≠ 0)
    have e : i = r := by omega
    subst e
    exact ⟨f, by rw [fX2_changesInSpans_L5, hz, if_pos (nI_le (by omega) (by omega))]⟩
  | succ m ih =>
    intro i n f h1 h2 h3
    obtain ⟨n, rfl⟩ := Nat.exists_eq_succ_of_ne_zero (by omega : n ≠ 0)
    have hi : i < r := by omega
    have hk := ky_lt z i
    obtain ⟨s1, s2⟩ := il_sh b hb (ky z i) hk
    have hsp := il_N2 b hb (ky z i) hk
    have ka : fX2_keyAt (nI i) z = some (nI (ky z i)) := by rw [fX2_keyAt, at_in (by omega) (by decide), Option.bind_some, h0 i hi]
    obtain ⟨f', b1⟩ := ih (i + 1) n (upd f (ky z i / 2 ^ (b + 1)) (nI (ky z i / 2 ^ b % 2))) (by omega) (by omega) (fun s hs => by
      show upd f _ _ s = if ky z i / 2 ^ (b + 1) = s then nI (ky z i / 2 ^ b % 2) else lst z b s i
      rw [upd_at]
      by_cases e : s = ky z i / 2 ^ (b + 1)
      · rw [if_pos e, if_pos e.symm]
      · rw [if_neg e, if_neg (Ne.symm e)]; exact h3 s hs)
    refine ⟨f', ?_⟩
    have J : fX2_changesInSpans_J62 64 (fX2_changesInSpans_L5 64 n) (nI b) (nI (clc z b i + chx z b (ky z i / 2 ^ (b + 1)) i)) (nI i) (nI (ky z i / 2 ^ b % 2)) (nI (ky z i / 2 ^ (b + 1))) z f = some (nI (clc z b r), f') := by
      rw [fX2_changesInSpans_J62, put_in hsp (by decide), Option.bind_some, px_let, nI_1]; exact b1
    rw [fX2_changesInSpans_L5, hz, if_neg (nI_ge hi (by omega)), ka, Option.bind_some, px_let, s1, Option.bind_some, px_let, s2, at_in hsp (by decide), Option.bind_some, h3 _ hsp]
    by_cases c : lst z b (ky z i / 2 ^ (b + 1)) i = -1
    · have c0 : chx z b (ky z i / 2 ^ (b + 1)) i = 0 := by unfold chx; rw [if_pos c]
      rw [c0, Nat.add_zero] at J
      rw [if_pos c]; exact J
    · by_cases w : lst z b (ky z i / 2 ^ (b + 1)) i = nI (ky z i / 2 ^ b % 2)
      · have c0 : chx z b (ky z i / 2 ^ (b + 1)) i = 0 := by unfold chx; rw [if_neg c, if_pos w]
        rw [c0, Nat.add_zero] at J
        rw [if_neg c, if_pos w]; exact J
      · have c0 : chx z b (ky z i / 2 ^ (b + 1)) i = 1 := by unfold chx; rw [if_neg c, if_neg w]
        rw [c0] at J
        rw [if_neg c, if_neg w, px_let, nI_1]; exact J
theorem il_all (ht : t < 8) (hr : r ≤ 100) (h12 : x.2 12 t = nI r) (h13 : ∀ i, i < r → x.2 13 (100 * t + i) = nI (ky z i)) (hz : z.1 1 = nI r) (h0 : ∀ i, i < r → z.2 0 i = nI (ky z i)) : ∀ (m b n1 n2 S : Nat) (f : Nat → Int32), m + b = 6 → m < n1 → m < n2 →
    ∃ (v : Int32) (f' : Nat → Int32), fX6_interleave_L19 n1 (nI t) (nI S) (nI (2 ^ (b + 1))) x = some (v, x) ∧ fX2_changesOfHalf_L4 64 n2 (nI S) (nI b) z f = some (v, f') := by
  intro m
  induction m with
  | zero =>
    intro b n1 n2 S f h1 h2 h3
    obtain ⟨n1, rfl⟩ := Nat.exists_eq_succ_of_ne_zero (by omega : n1 ≠ 0)
    obtain ⟨n2, rfl⟩ := Nat.exists_eq_succ_of_ne_zero (by omega : n2 ≠ 0)
    have e : b = 6 := by omega
    subst e
    exact ⟨nI S, f, by rw [fX6_interleave_L19, if_pos (by decide)], by rw [fX2_changesOfHalf_L4, if_pos (by decide)]⟩
  | succ m ih =>
    intro b n1 n2 S f h1 h2 h3
    obtain ⟨n1, rfl⟩ := Nat.exists_eq_succ_of_ne_zero (by omega : n1 ≠ 0)
    obtain ⟨n2, rfl⟩ := Nat.exists_eq_succ_of_ne_zero (by omega : n2 ≠ 0)
    have hb : b < 6 := by omega
    obtain ⟨p1, p2, p3, p4, p5, p6⟩ := il_pw b hb
    obtain ⟨f1, g1, g2⟩ := fill_ok 64 (by omega) (-1) f
    obtain ⟨f2, g3⟩ := il_5 (z := z) hr hz h0 hb r 0 FU f1 (by omega) (by show r < 5000; omega) (fun s hs => g2 s hs)
    obtain ⟨v, f', b1, b2⟩ := ih (b + 1) n1 n2 (S + clc z b r) f2 (by omega) (by omega) (by omega)
    refine ⟨v, f', ?_, ?_⟩
    · have q := il_28 (x := x) (z := z) (k19 := fX6_interleave_L19 n1) ht hr h12 h13 hb (2 ^ (5 - b)) 0 FU S (by omega) (by show _ < 5000; omega)
      rw [Nat.zero_mul] at q
      rw [fX6_interleave_L19, if_neg (nlt64 p1)]
      show fX6_interleave_L28 _ FU (nI t) (nI (S + sme (fun s => chg z b s r) 0)) _ (nI 0) x = _
      rw [q, fX6_interleave_J148, px_let, sme_chg z (fun j => il_N b hb _ (ky_lt z j)), ← b1, show (2 : Int32) * nI (2 ^ (b + 1)) = nI (2 ^ (b + 1 + 1)) by rw [show (2 : Int32) = nI 2 from rfl, pk_mul, Nat.pow_succ 2 (b + 1), Nat.mul_comm]]
    · rw [fX2_changesOfHalf_L4, if_neg (nge6 hb), g1, Option.bind_some, fX2_changesInSpans]
      show Option.bind (fX2_changesInSpans_L5 64 FU (nI b) (nI (clc z b 0)) (nI 0) z f1) _ = _
      rw [g3, Option.bind_some, px_let, px_let, nI_add, nI_1, b2]
/-- INTERLEAVE -/
theorem sim_inter {n : Nat} {w : Ob} (hn : n ≤ 8) (h1 : x.1 1 = nI n) (ht : t < n) (h : TR t x T y z G) : ∃ (v : Int32) (f : Nat → Int32), fX6_interleave (nI t) x = some (v, ob_i x 0 0) ∧ fX5_interleave_T (nI t) z w = some (v, ob_f w 4 f) := by
  obtain ⟨r, r1, r2, r3, r4⟩ := h.2.2.2.2.2.1.keys
  have h1' : (ob_i x 0 0).1 1 = nI n := h1
  obtain ⟨v, f', b1, b2⟩ := il_all (x := ob_i x 0 0) (z := z) (by omega : t < 8) r1 r3 (fun i hi => (r4 i hi).2) r2 (fun i hi => (r4 i hi).1) 6 0 FU FU 0 (w.2 4) (by omega) (by decide) (by decide)
  refine ⟨v, f', ?_, ?_⟩
  · rw [fX6_interleave, px_let, isTree_1 hn h1' ht, Option.bind_some, if_neg (by decide)]; exact b1
  · rw [fX5_interleave_T, fX2_changesOfHalf]
    show Option.bind (fX2_changesOfHalf_L4 64 FU (nI 0) (nI 0) z (w.2 4)) _ = _
    rw [b2]; rfl
end IL
