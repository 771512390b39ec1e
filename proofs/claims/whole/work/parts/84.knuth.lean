/-! BEST STILL: why the least root lies between those of the two shorter spans -/
def mn (f : Nat → Nat) : Nat → Nat
  | 0 => f 0
  | n + 1 => if f (n + 1) < mn f n then f (n + 1) else mn f n
section MN
variable {f g : Nat → Nat}
theorem mn_s (f : Nat → Nat) (n : Nat) : mn f (n + 1) = if f (n + 1) < mn f n then f (n + 1) else mn f n := rfl
theorem mn_le : ∀ n r, r ≤ n → mn f n ≤ f r := by
  intro n
  induction n with
  | zero => intro r h; rw [show r = 0 by omega]; exact Nat.le_refl _
  | succ n ih =>
    intro r h
    rw [mn_s]
    by_cases q : r = n + 1
    · subst q; split <;> omega
    · have := ih r (by omega); split <;> omega
theorem mn_ex : ∀ n, ∃ r, r ≤ n ∧ mn f n = f r := by
  intro n
  induction n with
  | zero => exact ⟨0, Nat.le_refl _, rfl⟩
  | succ n ih =>
    obtain ⟨r, h1, h2⟩ := ih
    rw [mn_s]
    by_cases q : f (n + 1) < mn f n
    · exact ⟨n + 1, Nat.le_refl _, by rw [if_pos q]⟩
    · exact ⟨r, by omega, by rw [if_neg q, h2]⟩
theorem mn_cong : ∀ n, (∀ r, r ≤ n → f r = g r) → mn f n = mn g n := by
  intro n
  induction n with
  | zero => intro h; exact h 0 (Nat.le_refl _)
  | succ n ih => intro h; rw [mn_s, mn_s, ih (fun r hr => h r (by omega)), h (n + 1) (Nat.le_refl _)]
end MN
/-- the least sums by the width: tb d has those of the widths up to d -/
def tb (oc : Nat → Nat) : Nat → Nat → Nat → Nat
  | 0, _, _ => 0
  | d + 1, e, i => if e = d + 1 then (sme oc (i + d + 1) - sme oc i) + mn (fun r => tb oc d r i + tb oc d (d - r) (i + r + 1)) d else tb oc d e i
/-- the least sum of the span from i to j -/
def cs (oc : Nat → Nat) (i j : Nat) : Nat := tb oc (j - i) (j - i) i
section KN
variable {oc : Nat → Nat}
theorem tb_st (i : Nat) : ∀ d e, e ≤ d → tb oc d e i = tb oc e e i := by
  intro d
  induction d with
  | zero => intro e h; rw [show e = 0 by omega]
  | succ d ih =>
    intro e h
    by_cases q : e = d + 1
    · rw [q]
    · rw [← ih e (by omega)]
      show (if e = d + 1 then _ else tb oc d e i) = _
      rw [if_neg q]
theorem cs_0 (i : Nat) : cs oc i i = 0 := by unfold cs; rw [Nat.sub_self]; rfl
theorem cs_s (i d : Nat) : cs oc i (i + d + 1) = (sme oc (i + d + 1) - sme oc i) + mn (fun r => cs oc i (i + r) + cs oc (i + r + 1) (i + d + 1)) d := by
  unfold cs
  rw [show i + d + 1 - i = d + 1 by omega]
  show (if d + 1 = d + 1 then _ else _) = _
  rw [if_pos rfl]
  congr 1
  refine mn_cong d (fun r hr => ?_)
  rw [tb_st i d r hr, tb_st (i + r + 1) d (d - r) (by omega), show i + r - i = r by omega, show i + d + 1 - (i + r + 1) = d - r by omega]
theorem cs_le {i r j : Nat} (h1 : i ≤ r) (h2 : r < j) : cs oc i j ≤ (sme oc j - sme oc i) + cs oc i r + cs oc (r + 1) j := by
  obtain ⟨d, rfl⟩ : ∃ d, j = i + d + 1 := ⟨j - i - 1, by omega⟩
  obtain ⟨e, rfl⟩ : ∃ e, r = i + e := ⟨r - i, by omega⟩
  rw [cs_s]
  have := mn_le (f := fun r => cs oc i (i + r) + cs oc (i + r + 1) (i + d + 1)) d e (by omega)
  have this : mn (fun r => cs oc i (i + r) + cs oc (i + r + 1) (i + d + 1)) d ≤ cs oc i (i + e) + cs oc (i + e + 1) (i + d + 1) := this
  omega
theorem cs_eq {i j : Nat} (h : i < j) : ∃ r, i ≤ r ∧ r < j ∧ cs oc i j = (sme oc j - sme oc i) + cs oc i r + cs oc (r + 1) j := by
  obtain ⟨d, rfl⟩ : ∃ d, j = i + d + 1 := ⟨j - i - 1, by omega⟩
  obtain ⟨r, h1, h2⟩ := mn_ex (f := fun r => cs oc i (i + r) + cs oc (i + r + 1) (i + d + 1)) d
  exact ⟨i + r, by omega, by omega, by rw [cs_s, h2]; omega⟩
theorem sme_mono (oc : Nat → Nat) {i j : Nat} (h : i ≤ j) : sme oc i ≤ sme oc j := by
  induction h with
  | refl => exact Nat.le_refl _
  | step _ ih => exact Nat.le_trans ih (Nat.le_add_right _ _)
/-- the quadrangle inequality (Yao) -/
theorem cs_qi : ∀ (m i i' j j' : Nat), i ≤ i' → i' ≤ j → j ≤ j' → j' - i ≤ m → cs oc i j + cs oc i' j' ≤ cs oc i' j + cs oc i j' := by
  intro m
  induction m with
  | zero =>
    intro i i' j j' h1 h2 h3 h4
    have e1 : i' = i := by omega
    have e2 : j = i := by omega
    have e3 : j' = i := by omega
    rw [e1, e2, e3]; omega
  | succ m ih =>
    intro i i' j j' h1 h2 h3 h4
    by_cases q1 : i = i'
    · subst q1; omega
    by_cases q2 : j = j'
    · subst q2; omega
    by_cases q3 : i' = j
    · subst q3
      rw [cs_0 i', Nat.zero_add]
      obtain ⟨k, k1, k2, k3⟩ := cs_eq (oc := oc) (i := i) (j := j') (by omega)
      have w1 := sme_mono oc (i := i) (j := i') h1
      have w2 := sme_mono oc (i := i') (j := j') h3
      by_cases q4 : k < i'
      · have a := cs_le (oc := oc) (i := i) (r := k) (j := i') k1 q4
        have b := ih (k + 1) i' i' j' (by omega) (Nat.le_refl _) h3 (by omega)
        rw [cs_0 i', Nat.zero_add] at b
        omega
      · have a := cs_le (oc := oc) (i := i') (r := k) (j := j') (by omega) k2
        have b := ih i i' i' k h1 (Nat.le_refl _) (by omega) (by omega)
        rw [cs_0 i', Nat.zero_add] at b
        omega
    · obtain ⟨y, y1, y2, y3⟩ := cs_eq (oc := oc) (i := i') (j := j) (by omega)
      obtain ⟨z, z1, z2, z3⟩ := cs_eq (oc := oc) (i := i) (j := j') (by omega)
      have w1 := sme_mono oc (i := i) (j := i') h1
      have w2 := sme_mono oc (i := i') (j := j) h2
      have w3 := sme_mono oc (i := j) (j := j') h3
      by_cases q4 : z ≤ y
      · have a := cs_le (oc := oc) (i := i) (r := z) (j := j) z1 (by omega)
        have b := cs_le (oc := oc) (i := i') (r := y) (j := j') y1 (by omega)
        have c := ih (z + 1) (y + 1) j j' (by omega) (by omega) h3 (by omega)
        omega
      · have a := cs_le (oc := oc) (i := i') (r := z) (j := j') (by omega) z2
        have b := cs_le (oc := oc) (i := i) (r := y) (j := j) (by omega) y2
        have c := ih i i' y z h1 y1 (by omega) (by omega)
        omega
/-- the sum below a root -/
def vl (oc : Nat → Nat) (i j r : Nat) : Nat := cs oc i r + cs oc (r + 1) j
/-- the least root with the least sum, of those from a to e -/
def Lm (oc : Nat → Nat) (i j a e K : Nat) : Prop := a ≤ K ∧ K < e ∧ (∀ r, a ≤ r → r < e → vl oc i j K ≤ vl oc i j r) ∧ (∀ r, a ≤ r → r < K → vl oc i j K < vl oc i j r)
abbrev Kr (oc : Nat → Nat) (i j K : Nat) : Prop := Lm oc i j i j K
theorem Lm.step {i j a e K : Nat} (h : Lm oc i j a e K) : Lm oc i j a (e + 1) (if vl oc i j e < vl oc i j K then e else K) := by
  obtain ⟨h1, h2, h3, h4⟩ := h
  by_cases q : vl oc i j e < vl oc i j K
  · rw [if_pos q]
    refine ⟨by omega, by omega, fun r r1 r2 => ?_, fun r r1 r2 => ?_⟩
    · by_cases w : r = e
      · rw [w]; exact Nat.le_refl _
      · have := h3 r r1 (by omega); omega
    · have := h3 r r1 (by omega); omega
  · rw [if_neg q]
    refine ⟨h1, by omega, fun r r1 r2 => ?_, h4⟩
    by_cases w : r = e
    · rw [w]; omega
    · exact h3 r r1 (by omega)
theorem Lm.one (i j a : Nat) : Lm oc i j a (a + 1) a := by
  refine ⟨by omega, by omega, fun r r1 r2 => ?_, fun r r1 r2 => by omega⟩
  rw [show r = a by omega]; exact Nat.le_refl _
theorem Lm.ex (i j a : Nat) : ∀ m, ∃ K, Lm oc i j a (a + m + 1) K := by
  intro m
  induction m with
  | zero => exact ⟨a, Lm.one i j a⟩
  | succ m ih => obtain ⟨K, h⟩ := ih; exact ⟨_, h.step⟩
theorem Kr.ex {i j : Nat} (h : i < j) : ∃ K, Kr oc i j K := by
  obtain ⟨K, q⟩ := Lm.ex (oc := oc) i j i (j - i - 1)
  rw [show i + (j - i - 1) + 1 = j by omega] at q
  exact ⟨K, q⟩
theorem Kr.val {i j K : Nat} (h : Kr oc i j K) : cs oc i j = (sme oc j - sme oc i) + vl oc i j K := by
  obtain ⟨h1, h2, h3, h4⟩ := h
  obtain ⟨r, r1, r2, r3⟩ := cs_eq (oc := oc) (i := i) (j := j) (by omega)
  have a := h3 r r1 r2
  have b := cs_le (oc := oc) h1 h2
  unfold vl at *
  omega
theorem Kr.up1 {i j K K' : Nat} (h : Kr oc i j K) (h' : Kr oc i (j + 1) K') : K ≤ K' := by
  obtain ⟨h1, h2, h3, h4⟩ := h
  obtain ⟨g1, g2, g3, g4⟩ := h'
  rcases Nat.lt_or_ge K' K with w | w
  · exfalso
    have a := h4 K' g1 w
    have b := g3 K h1 (by omega)
    have c := cs_qi (oc := oc) (j + 1) (K' + 1) (K + 1) j (j + 1) (by omega) (by omega) (by omega) (by omega)
    unfold vl at a b
    omega
  · exact w
theorem Kr.up2 {i j K K' : Nat} (h : Kr oc (i + 1) j K) (h' : Kr oc i j K') : K' ≤ K := by
  obtain ⟨h1, h2, h3, h4⟩ := h
  obtain ⟨g1, g2, g3, g4⟩ := h'
  rcases Nat.lt_or_ge K K' with w | w
  · exfalso
    have a := h3 K' (by omega) g2
    have b := g4 K (by omega) w
    have c := cs_qi (oc := oc) j i (i + 1) K K' (by omega) (by omega) (by omega) (by omega)
    unfold vl at a b
    omega
  · exact w
/-- found between the two -/
theorem Kr.of {i j a e K : Nat} (h : Lm oc i j a e K) {K' : Nat} (h' : Kr oc i j K') (ha : i ≤ a) (h1 : a ≤ K') (h2 : K' < e) (he : e ≤ j) : K = K' := by
  obtain ⟨a1, a2, a3, a4⟩ := h
  obtain ⟨b1, b2, b3, b4⟩ := h'
  have p := a3 K' h1 h2
  have q := b3 K (by omega) (by omega)
  rcases Nat.lt_trichotomy K K' with w | w | w
  · have := b4 K (by omega) w; omega
  · exact w
  · have := a4 K' h1 w; omega
theorem sme_le {M : Nat} (h : ∀ i, oc i ≤ M) : ∀ n, sme oc n ≤ n * M := by
  intro n
  induction n with
  | zero => exact Nat.zero_le _
  | succ n ih => show sme oc n + oc n ≤ (n + 1) * M; have := h n; rw [Nat.add_mul, Nat.one_mul]; omega
theorem cs_bd {M N : Nat} (h : ∀ i, i ≤ N → sme oc i ≤ M) : ∀ (d i : Nat), i + d ≤ N → cs oc i (i + d) ≤ d * M := by
  intro d
  induction d with
  | zero => intro i _; rw [Nat.add_zero, cs_0]; exact Nat.zero_le _
  | succ d ih =>
    intro i hi
    have a := cs_le (oc := oc) (i := i) (r := i) (j := i + (d + 1)) (Nat.le_refl _) (by omega)
    have b := ih (i + 1) (by omega)
    have c := h (i + (d + 1)) hi
    rw [cs_0, show i + 1 + d = i + (d + 1) by omega] at *
    rw [Nat.add_mul, Nat.one_mul]
    omega
theorem cs_sm {N : Nat} (h : ∀ i, oc i ≤ 100) (hN : N ≤ 64) {i j : Nat} (hij : i ≤ j) (hj : j ≤ N) : cs oc i j ≤ 409600 := by
  have a := cs_bd (oc := oc) (M := 6400) (N := N) (fun k hk => by have := sme_le h k; omega) (j - i) i (by omega)
  rw [show i + (j - i) = j by omega] at a
  have : (j - i) * 6400 ≤ 64 * 6400 := Nat.mul_le_mul_right _ (by omega)
  omega
end KN
